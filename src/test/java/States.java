import java.util.ArrayList;
import java.util.List;
import java.util.function.Consumer;
import java.util.function.Supplier;

/** Objects in every kind of state, each made anew by the same calls; M is 6 in all of them. */
final class States {
    /**
     * refuses names the calls with good arguments that are refused in the state all the same:
     * F for function, N for node, S for start. slots is what the three slots hold.
     */
    record State(String name, int code, int status, String refuses, String slots,
            Supplier<SizedTermination> maker) {
        SizedTermination make() {
            return maker.get();
        }

        boolean refuses(char call) {
            return refuses.indexOf(call) >= 0;
        }
    }

    /** What the slots hold in most states: no two alike, and one of them a list. */
    private static final String SLOTS = "4 [3 1 6] 5";

    private static final String TYPES = "NLN>";
    private static final String COUNT_DOWN = "caseN v0 v2 call0 v3 v1 v2";
    private static final String STAY = "call0 v0 v1 v2";

    private States() {
    }

    static List<State> all() {
        List<State> all = new ArrayList<>();
        all.add(new State("fresh", 0, 0, "NS", "0 0 0", () -> new SizedTermination(6)));
        all.add(state("slots filled", 0, 0, "NS", x -> { }));
        all.add(state("nothing checked", 7, 0, "NS", SizedTermination::compile));
        all.add(state("cleared", 0, 0, "NS", x -> {
            ready(x, "N", COUNT_DOWN);
            x.clearProgram();
        }));
        all.add(state("a header alone", 0, 0, "S", x -> x.function(3, 2, 0)));
        all.add(state("not checked", 0, 0, "S", x -> Programs.declare(x, TYPES + "N", COUNT_DOWN)));
        addChecked(all);
        addFull(all);
        addRunning(all);
        addEnded(all);
        addOtherSlots(all);
        return all;
    }

    private static State state(String name, int code, int status, String refuses,
            Consumer<SizedTermination> calls) {
        return withSlots(SLOTS, name, code, status, refuses, calls);
    }

    private static State withSlots(String slots, String name, int code, int status, String refuses,
            Consumer<SizedTermination> calls) {
        return new State(name, code, status, refuses, slots, () -> {
            SizedTermination x = new SizedTermination(6);
            Programs.putNat(x, 0, 4);
            Programs.putList(x, 1, 3, 1, 6);
            Programs.putNat(x, 2, 5);
            calls.accept(x);
            return x;
        });
    }

    private static void checked(SizedTermination x, String result, String body) {
        Programs.declare(x, TYPES + result, body);
        x.compile();
    }

    private static void ready(SizedTermination x, String result, String body) {
        checked(x, result, body);
        Due.same("start", x.start(7), true);
    }

    private static void run(SizedTermination x, String result, String body, int k, int status) {
        ready(x, result, body);
        Due.same("run", x.run(k), status);
    }

    private static void addChecked(List<State> all) {
        all.add(state("accepted", 1, 0, "", x -> checked(x, "N", COUNT_DOWN)));
        all.add(state("no descent", 6, 0, "", x -> checked(x, "N", STAY)));
        String[] faults = {"succ", "v3", "call2", "nil"};
        for (int i = 0; i < faults.length; i++) {
            String body = faults[i];
            all.add(state("faulty with " + body, SizedTermination.CODE_SYNTAX + i, 0, "S", x -> {
                Programs.declare(x, TYPES + "N", COUNT_DOWN);
                checked(x, "N", body);
            }));
        }
    }

    private static void addFull(List<State> all) {
        all.add(state("six functions", 0, 0, "FS", States::sixFunctions));
        all.add(state("six functions accepted", 1, 0, "F", x -> {
            sixFunctions(x);
            x.compile();
        }));
        all.add(state("six functions, paused", 1, 1, "F", x -> {
            sixFunctions(x);
            x.compile();
            x.start(1);
            x.run(2);
        }));
        all.add(state("64 nodes", 0, 0, "NS", States::allNodes));
        all.add(state("64 nodes, done", 1, 2, "N", x -> {
            allNodes(x);
            x.compile();
            x.start(1);
            x.run(1);
        }));
        all.add(state("six functions and 64 nodes", 2, 0, "FNS", x -> {
            for (int f = 0; f < 6; f++) {
                x.function(1, 0, 0);
            }
            for (int n = 0; n < 64; n++) {
                x.node(SizedTermination.K_ZERO, 0);
            }
            x.compile();
        }));
    }

    private static void sixFunctions(SizedTermination x) {
        for (int f = 0; f < 5; f++) {
            Programs.declare(x, TYPES + "N", "caseN v0 v2 call" + f + " v3 v1 v2");
        }
        Programs.declare(x, TYPES + "N", "call4 call3 v0 v1 v2 v1 v2");
    }

    private static void allNodes(SizedTermination x) {
        Programs.declare(x, TYPES + "N", "caseN zero v2" + " succ".repeat(60) + " zero");
    }

    private static void addRunning(List<State> all) {
        all.add(state("ready", 1, 1, "", x -> ready(x, "N", COUNT_DOWN)));
        all.add(state("paused", 1, 1, "", x -> run(x, "N", COUNT_DOWN, 2, 1)));
        all.add(state("ready, no descent", 6, 1, "", x -> ready(x, "N", STAY)));
        all.add(state("paused, no descent", 6, 1, "", x -> run(x, "N", STAY, 3, 1)));
    }

    private static void addEnded(List<State> all) {
        all.add(state("done, a natural", 1, 2, "", x -> run(x, "N", COUNT_DOWN, 200, 2)));
        all.add(state("done, a list", 1, 2, "", x -> run(x, "L", "cons v2 v1", 200, 2)));
        all.add(state("done, no descent", 6, 2, "",
            x -> run(x, "N", "caseN zero v2 call0 v0 v1 v2", 200, 2)));
        all.add(state("out of fuel", 6, 3, "", x -> run(x, "N", STAY, 200, 3)));
        all.add(state("overflow", 1, 4, "", x -> run(x, "N", "succ succ v2", 200, 4)));
        all.add(state("too deep, accepted", 1, 5, "",
            x -> run(x, "N", "caseN v2 caseN v0 zero call0 v3 v1 succ succ succ zero call0 v0 v1 v3",
                200, 5)));
        all.add(state("too deep", 6, 5, "", x -> {
            checked(x, "N", STAY);
            x.start(100);
            x.run(200);
        }));
    }

    private static void addOtherSlots(List<State> all) {
        all.add(withSlots("1 [2 2] 6", "paused, slots changed", 1, 1, "", x -> {
            run(x, "N", COUNT_DOWN, 2, 1);
            Programs.putNat(x, 0, 1);
            Programs.putList(x, 1, 2, 2);
            Programs.putNat(x, 2, 6);
        }));
        all.add(withSlots("4 [3 1 6] [5]", "accepted, a list for a natural", 1, 0, "S", x -> {
            checked(x, "N", COUNT_DOWN);
            Programs.putList(x, 2, 5);
        }));
        all.add(withSlots("4 0 5", "paused, a natural for a list", 1, 1, "S", x -> {
            run(x, "N", COUNT_DOWN, 2, 1);
            Programs.putNat(x, 1, 0);
        }));
        all.add(withSlots("[1 2 3 4 5 6] [3 1 6] 5", "done, a list for a natural", 1, 2, "S", x -> {
            run(x, "L", "cons v2 v1", 200, 2);
            Programs.putList(x, 0, 1, 2, 3, 4, 5, 6);
        }));
    }
}
