import java.util.Set;
import java.util.TreeSet;

/** What an accepted call does in every state, and what it leaves as it was. */
public final class EveryStateTest {
    public static void main(String[] args) {
        Set<Integer> codes = new TreeSet<>();
        Set<Integer> statuses = new TreeSet<>();
        for (States.State state : States.all()) {
            SizedTermination x = state.make();
            Due.same(state.name() + " code", x.getCode(), state.code());
            Due.same(state.name() + " status", x.getStatus(), state.status());
            Due.same(state.name() + " slots", Probe.slots(state.make()), state.slots());
            codes.add(x.getCode());
            statuses.add(x.getStatus());
            clears(state);
            declares(state);
            appends(state);
            compiles(state);
            setsInputs(state);
            starts(state);
            runs(state);
        }
        Due.same("every code", codes, Set.of(0, 1, 2, 3, 4, 5, 6, 7));
        Due.same("every status", statuses, Set.of(0, 1, 2, 3, 4, 5));
        Due.end();
    }

    private static void sameInputsAndCap(String what, States.State state, SizedTermination x) {
        Due.same(what + ", inputs", Probe.slots(x), state.slots());
        Due.same(what + ", M", Probe.cap(x), 6);
    }

    /** "clearProgram() always works. It removes all functions and nodes (F becomes 0), then RESETs." */
    private static void clears(States.State state) {
        SizedTermination x = state.make();
        x.clearProgram();
        String what = "clearProgram when " + state.name();
        Due.same(what, Programs.all(x), Programs.RESET);
        Due.same(what + ", run", x.run(1), SizedTermination.ST_IDLE);
        Due.same(what + ", start", x.start(5), false);
        Due.same(what + ", node", x.node(SizedTermination.K_ZERO, 0), false);
        Due.same(what + ", compile", x.compile(), SizedTermination.CODE_EMPTY);
        String room = Probe.program(x);
        Due.same(what + ", room", room.endsWith("; room 6 64; "), true);
        sameInputsAndCap(what, state, x);
    }

    /** "It answers the index of the new function .., and RESETs. Inputs do not change." */
    private static void declares(States.State state) {
        if (state.refuses('F')) {
            return;
        }
        SizedTermination x = state.make();
        int before = functions(state);
        String what = "function when " + state.name();
        Due.same(what, x.function(3, 2, SizedTermination.NAT), before);
        Due.same(what + ", shown", Programs.all(x), Programs.RESET);
        Due.same(what + ", run", x.run(1), SizedTermination.ST_IDLE);
        Due.same(what + ", start", x.start(5), false);
        Due.same(what + ", one more", functions(x), before + 1);
        sameInputsAndCap(what, state, x);
    }

    private static int functions(States.State state) {
        return functions(state.make());
    }

    /** The number of functions, told by how many more there is room for. */
    private static int functions(SizedTermination x) {
        int functions = SizedTermination.MAX_FUNCS;
        for (int i = 0; i < 10 && x.function(1, 0, 0) >= 0; i++) {
            functions--;
        }
        return functions;
    }

    /** "Otherwise it answers true and RESETs. .. Inputs do not change." */
    private static void appends(States.State state) {
        for (int kind = 0; kind < 8 && !state.refuses('N'); kind++) {
            SizedTermination x = state.make();
            String what = "node " + kind + " when " + state.name();
            Due.same(what, x.node(kind, 0), true);
            Due.same(what + ", shown", Programs.all(x), Programs.RESET);
            Due.same(what + ", run", x.run(1), SizedTermination.ST_IDLE);
            Due.same(what + ", start", x.start(5), false);
            sameInputsAndCap(what, state, x);
        }
    }

    /** "it sets status ST_IDLE, .. ending any run. The program and the inputs do not change." */
    private static void compiles(States.State state) {
        SizedTermination x = state.make();
        int code = x.compile();
        String what = "compile when " + state.name();
        if (state.code() != SizedTermination.CODE_NOT_COMPILED) {
            Due.same(what, code, state.code());
        }
        Due.same(what + ", getCode", x.getCode(), code);
        Due.same(what + ", machine", Programs.machine(x), "status 0 calls 0 depth 0");
        Due.same(what + ", result", Programs.result(x), "-1");
        Due.same(what + ", run", x.run(1), SizedTermination.ST_IDLE);
        boolean faulty = code != SizedTermination.CODE_OK && code != SizedTermination.CODE_EMPTY;
        Due.same(what + ", fault", x.getFaultFunction() >= 0, faulty);
        Due.same(what + ", bound", x.getBound() >= 1, code == SizedTermination.CODE_OK);
        String checked = Programs.all(x);
        x.compile();
        Due.same(what + " again", Programs.all(x), checked);
        Due.same(what + ", program", Probe.program(x), Probe.program(state.make()));
        sameInputsAndCap(what, state, x);
    }

    /** "Status and machine are not touched; .. a run already started keeps the arguments it copied." */
    private static void setsInputs(States.State state) {
        String untouched = Probe.steps(state.make());
        for (int slot = 0; slot < 3; slot++) {
            SizedTermination x = state.make();
            String what = "input " + slot + " when " + state.name();
            Due.same(what, x.input(slot, SizedTermination.IN_NAT, 6), true);
            Due.same(what + ", natural", Probe.steps(x), untouched);
            x = state.make();
            Due.same(what, x.input(slot, SizedTermination.IN_NIL, Integer.MAX_VALUE), true);
            Due.same(what + ", empty", Programs.all(x), Programs.all(state.make()));
            Due.same(what, x.input(slot, SizedTermination.IN_CONS, 6), true);
            Due.same(what + ", list", Probe.steps(x), untouched);
            x = state.make();
            x.input(slot, SizedTermination.IN_NIL, Integer.MIN_VALUE);
            Due.same(what + ", program", Probe.program(x).split("start")[0],
                Probe.program(state.make()).split("start")[0]);
        }
    }

    /** "It works in any status, ending any earlier run. .. Program, code, bound and inputs do not change." */
    private static void starts(States.State state) {
        if (state.refuses('S')) {
            return;
        }
        int[] fuels = {Integer.MIN_VALUE, 0, 1, 20, Integer.MAX_VALUE};
        for (int fuel : fuels) {
            SizedTermination x = state.make();
            String check = Programs.check(x);
            String what = "start(" + fuel + ") when " + state.name();
            Due.same(what, x.start(fuel), true);
            Due.same(what + ", shown", Programs.all(x),
                check + " status 1 calls 0 depth 0 result -1 -1");
            SizedTermination checked = state.make();
            checked.compile();
            checked.start(fuel);
            Due.same(what + ", steps", Probe.steps(x), Probe.steps(checked));
            Due.same(what + ", program", Probe.program(x), Probe.program(state.make()));
            sameInputsAndCap(what, state, x);
        }
    }

    /** "A run never changes program, code, fault function, bound or inputs." */
    private static void runs(States.State state) {
        int[] ks = {Integer.MIN_VALUE, 0, 1, 2, 200, Integer.MAX_VALUE};
        for (int k : ks) {
            SizedTermination x = state.make();
            String check = Programs.check(x);
            String what = "run(" + k + ") when " + state.name();
            int status = x.run(k);
            Due.same(what, x.getStatus(), status);
            Due.same(what + ", check", Programs.check(x), check);
            if (!state.refuses('S')) {
                Due.same(what + ", next run", Probe.again(x), Probe.again(state.make()));
            }
            Due.same(what + ", program", Probe.program(x), Probe.program(state.make()));
            sameInputsAndCap(what, state, x);
        }
    }
}
