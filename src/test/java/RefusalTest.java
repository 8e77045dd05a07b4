import java.util.LinkedHashMap;
import java.util.Map;
import java.util.function.Function;

/** What is refused, in every state: the answer, and that nothing has changed. */
public final class RefusalTest {
    private static final int MIN = Integer.MIN_VALUE;
    private static final int MAX = Integer.MAX_VALUE;

    /** Calls that are refused whatever the state, with the answer that is due. */
    private static final Map<String, Function<SizedTermination, Object>> always = new LinkedHashMap<>();
    private static final Map<String, Object> answers = new LinkedHashMap<>();

    public static void main(String[] args) {
        badFunctions();
        badNodes();
        badInputs();
        for (States.State state : States.all()) {
            String untouched = Probe.everything(state.make());
            for (String call : always.keySet()) {
                refused(state, untouched, call, always.get(call), answers.get(call));
            }
            goodCallsRefused(state, untouched);
            readingChangesNothing(state, untouched);
        }
        Due.end();
    }

    private static void add(String call, Object answer, Function<SizedTermination, Object> made) {
        always.put(call, made);
        answers.put(call, answer);
    }

    private static void refused(States.State state, String untouched, String call,
            Function<SizedTermination, Object> made, Object answer) {
        SizedTermination x = state.make();
        Due.same(state.name() + ": " + call, made.apply(x), answer);
        Due.same(state.name() + " after " + call, Probe.everything(x), untouched);
    }

    /** "refused .. if .. paramCount is not in 1..3, or resultType is not NAT or LIST" */
    private static void badFunctions() {
        int[][] bad = {{0, 0, 0}, {4, 0, 0}, {-1, 0, 1}, {MIN, 0, 0}, {MAX, 0, 1}, {1, 0, 2},
            {1, 0, -1}, {3, 7, MIN}, {2, 1, MAX}, {0, 0, 2}, {4, -1, -1}};
        for (int[] b : bad) {
            add("function(" + b[0] + ", " + b[1] + ", " + b[2] + ")", -1,
                x -> x.function(b[0], b[1], b[2]));
        }
    }

    /** "refused .. if .. kind is not in 0..7" */
    private static void badNodes() {
        int[] kinds = {-1, 8, 9, MIN, MAX, 256, -256};
        for (int kind : kinds) {
            add("node(" + kind + ", 0)", false, x -> x.node(kind, 0));
        }
    }

    /**
     * "refused .. if slot is not in 0..2; or op is not in 0..2; or, for IN_NAT, value is not in
     * 0..M; or, for IN_CONS, .. value is not in 0..M"
     */
    private static void badInputs() {
        int[] outside = {-1, 3, 4, MIN, MAX};
        for (int out : outside) {
            for (int good = 0; good < 3; good++) {
                addInput(out, good, 0);
                addInput(good, out, 0);
            }
            addInput(out, out, out);
        }
        int[] values = {-1, 7, 16, 256, MIN, MAX};
        for (int value : values) {
            for (int slot = 0; slot < 3; slot++) {
                addInput(slot, SizedTermination.IN_NAT, value);
                addInput(slot, SizedTermination.IN_CONS, value);
            }
        }
    }

    private static void addInput(int slot, int op, int value) {
        String call = "input(" + slot + ", " + op + ", " + value + ")";
        add(call, false, x -> x.input(slot, op, value));
    }

    /** What the state itself stands against: no room, no function, no code, no fitting slots. */
    private static void goodCallsRefused(States.State state, String untouched) {
        if (state.refuses('F')) {
            refused(state, untouched, "function(1, 0, 0)", x -> x.function(1, 0, 0), -1);
            refused(state, untouched, "function(3, -1, 1)", x -> x.function(3, -1, 1), -1);
        }
        for (int kind = 0; kind < 8 && state.refuses('N'); kind++) {
            int asked = kind;
            refused(state, untouched, "node(" + kind + ", 0)", x -> x.node(asked, 0), false);
        }
        int[] numbers = {MIN, -1, 0, 1, 7, 200, 100000, MAX};
        for (int number : numbers) {
            if (state.refuses('S')) {
                refused(state, untouched, "start(" + number + ")", x -> x.start(number), false);
            }
            if (state.status() != SizedTermination.ST_READY) {
                refused(state, untouched, "run(" + number + ")", x -> x.run(number), state.status());
            }
        }
        consRefused(state, untouched);
    }

    /** "for IN_CONS, the slot does not hold a list, or its length is M" */
    private static void consRefused(States.State state, String untouched) {
        for (int slot = 0; slot < 3; slot++) {
            int asked = slot;
            if (takesAnElement(state, slot)) {
                Due.same("cons on slot " + slot, state.make().input(slot, 2, 6), true);
            } else {
                refused(state, untouched, "cons on slot " + slot, x -> x.input(asked, 2, 0), false);
            }
        }
    }

    /** Whether the slot holds a list of fewer than M elements. */
    private static boolean takesAnElement(States.State state, int slot) {
        String[] held = state.slots().split(" (?![^\\[]*\\])");
        return held[slot].startsWith("[") && held[slot].split(" ").length < 6;
    }

    /** "None of them changes anything." */
    private static void readingChangesNothing(States.State state, String untouched) {
        SizedTermination x = state.make();
        String before = Programs.all(x);
        int[] indexes = {MIN, -1, 0, 1, 2, 3, 12, MAX};
        for (int i : indexes) {
            x.resultElem(i);
            Due.same(state.name() + " read again", Programs.all(x), before);
        }
        Due.same(state.name() + " after reading", Probe.everything(x), untouched);
    }
}
