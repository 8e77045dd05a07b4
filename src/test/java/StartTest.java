/** Promise 8; RefusalTest and EveryStateTest start in every state. */
public final class StartTest {
    public static void main(String[] args) {
        refusedCodes();
        slotTypes();
        refusalChangesNothing();
        fuelOfAcceptedProgram();
        fuelBeyondTheGreatestArgument();
        fuelOfOthers();
        leastFuel();
        anyStatus();
        everyStatus();
        copiesTheSlots();
        Due.end();
    }

    /** "refused .. if the code is not CODE_OK or CODE_DESCENT" */
    private static void refusedCodes() {
        SizedTermination x = new SizedTermination(6);
        refused(x, "code 0");
        x.compile();
        refused(x, "code 7");
        String[] bodies = {"succ", "v1", "call1", "nil"};
        for (int i = 0; i < bodies.length; i++) {
            x.clearProgram();
            Programs.declare(x, "N>N", bodies[i]);
            refused(x, "code 0");
            x.compile();
            refused(x, "code " + (i + 2));
        }
    }

    private static void refused(SizedTermination x, String code) {
        Due.same("code", Programs.check(x).startsWith(code), true);
        String before = Programs.all(x);
        Due.same("start with " + code, x.start(10), false);
        Due.same("unchanged", Programs.all(x), before);
        Due.same("run", x.run(1), SizedTermination.ST_IDLE);
    }

    /**
     * "some slot i < p_MAIN holds a natural where parameter i of MAIN is LIST, or a list where it
     * is NAT. Slots at or beyond p_MAIN are not looked at.": all signatures, all fillings.
     */
    private static void slotTypes() {
        for (int count = 1; count <= 3; count++) {
            for (int mask = 0; mask < 8; mask++) {
                for (int held = 0; held < 8; held++) {
                    SizedTermination x = new SizedTermination(6);
                    x.function(count, mask, 0);
                    x.node(SizedTermination.K_ZERO, 0);
                    x.compile();
                    for (int slot = 0; slot < 3; slot++) {
                        x.input(slot, (held >> slot & 1) == 1 ? 1 : 0, 0);
                    }
                    int looked = (1 << count) - 1;
                    boolean fits = (held & looked) == (mask & looked);
                    Due.same(count + " of " + mask + " given " + held, x.start(0), fits);
                    Due.same("status", x.getStatus(), fits ? 1 : 0);
                }
            }
        }
        // Only MAIN's parameters matter, and MAIN is the last function.
        SizedTermination x = Programs.one("LLL>N", "zero");
        Programs.declare(x, "N>N", "v0");
        x.compile();
        Due.same("MAIN is the last", x.start(0), true);
        Programs.declare(x, "L>L", "v0");
        x.compile();
        Due.same("MAIN is the last now", x.start(0), false);
    }

    /** "refused, answering false with nothing changed" */
    private static void refusalChangesNothing() {
        SizedTermination x = Programs.one("N>N", Programs.HALF);
        x.compile();
        Programs.putNat(x, 0, 6);
        x.start(0);
        x.run(2);
        String before = Programs.all(x);
        Programs.putList(x, 0);
        Due.same("wrong slot in a run", x.start(0), false);
        Due.same("unchanged", Programs.all(x), before);
        x.run(9);
        Due.same("went on", x.resultNat(), 3);
        Due.same("wrong slot after a run", x.start(0), false);
        Due.same("result stays", x.resultNat(), 3);
    }

    /** "the fuel becomes the bound if the code is CODE_OK (the argument is then ignored)" */
    private static void fuelOfAcceptedProgram() {
        SizedTermination x = Programs.one("N>N", Programs.HALF);
        x.compile();
        Programs.putNat(x, 0, 6);
        int[] fuels = {Integer.MIN_VALUE, -1, 0, 1, 3, 1000000, Integer.MAX_VALUE};
        for (int fuel : fuels) {
            Due.same("fuel " + fuel, Programs.outcome(x, fuel), "status 2 calls 4 depth 0 result 3");
        }
        Due.same("bound", x.getBound(), 7);
    }

    /** "the fuel becomes the bound": not clamped into 1..MAX_FUEL, nor cut to an int. */
    private static void fuelBeyondTheGreatestArgument() {
        // Three self-calls on n - 1, all of them evaluated: 1 + 3 + .. + 3^12 are begun.
        SizedTermination x = new SizedTermination(12);
        Programs.declare(x, "N>N", "caseN v0 zero caseL cons call0 v1 cons call0 v1 cons call0 v1 nil zero zero");
        Due.same("accepted", x.compile(), SizedTermination.CODE_OK);
        Due.same("bound", x.getBound(), 797161);
        Programs.putNat(x, 0, 12);
        Due.same("all of the bound", Programs.outcome(x, 1), "status 2 calls 797161 depth 0 result 0");
        // A bound of 2^36, whose low half is 0.
        x = new SizedTermination(5);
        Programs.declare(x, "NN>N", "caseN v0 v1 call0 v2 call0 v2 v1");
        Programs.declare(x, "NN>N", "call0 v0 v1");
        Due.same("accepted", x.compile(), SizedTermination.CODE_OK);
        Due.same("bound", x.getBound(), 1L << 36);
        Programs.putNat(x, 0, 5);
        Programs.putNat(x, 1, 4);
        Due.same("runs", Programs.outcome(x, 1), "status 2 calls 64 depth 0 result 4");
        // A bound that was cut down to BOUND_CAP.
        x = new SizedTermination(12);
        Programs.declare(x, "NN>N", "caseN v0 v1 call0 v2 call0 v2 call0 v2 v1");
        Due.same("accepted", x.compile(), SizedTermination.CODE_OK);
        Due.same("bound", x.getBound(), SizedTermination.BOUND_CAP);
        Programs.putNat(x, 0, 11);
        Programs.putNat(x, 1, 7);
        Due.same("runs", Programs.outcome(x, -5), "status 2 calls 265720 depth 0 result 7");
    }

    /** Two self-calls on n - 1, in the second of which the check sees no descent. */
    private static final String TREE = "caseN v0 zero caseN call0 v1 call0 caseN v1 v1 v1 zero";

    /** "else the argument clamped into 1..MAX_FUEL" */
    private static void fuelOfOthers() {
        SizedTermination x = Programs.one("N>N", TREE);
        Due.same("not seen to descend", x.compile(), SizedTermination.CODE_DESCENT);
        Programs.putNat(x, 0, 4);
        Due.same("31 are needed", Programs.outcome(x, 31), "status 2 calls 31 depth 0 result 0");
        Due.same("30 are too few", Programs.outcome(x, 30), "status 3 calls 30 depth 4 result -1");
        Due.same("1", Programs.outcome(x, 1), "status 3 calls 1 depth 1 result -1");
        Due.same("0 becomes 1", Programs.outcome(x, 0), "status 3 calls 1 depth 1 result -1");
        Due.same("less becomes 1", Programs.outcome(x, Integer.MIN_VALUE),
            "status 3 calls 1 depth 1 result -1");
        // Three calls at each of twelve levels: far beyond MAX_FUEL, and within MAX_DEPTH.
        x = new SizedTermination(12);
        Programs.declare(x, "NN>N", "caseN v0 caseN v1 zero call0 v1 zero"
            + " caseN call0 v2 v1 caseN call0 v2 v1 call0 v2 v1 zero zero");
        Due.same("compile", x.compile(), SizedTermination.CODE_DESCENT);
        Programs.putNat(x, 0, 12);
        Programs.putNat(x, 1, 2);
        mostFuel(x, SizedTermination.MAX_FUEL);
        mostFuel(x, SizedTermination.MAX_FUEL + 1);
        mostFuel(x, Integer.MAX_VALUE);
        Due.same("one less", Programs.outcome(x, 99999).startsWith("status 3 calls 99999 "), true);
    }

    private static void mostFuel(SizedTermination x, int fuel) {
        Due.same("fuel " + fuel, Programs.outcome(x, fuel).startsWith("status 3 calls 100000 "), true);
    }

    private static void anyStatus() {
        SizedTermination x = Programs.one("N>N", TREE);
        x.compile();
        Programs.putNat(x, 0, 4);
        String ready = "code 6 fault 0 bound 0 status 1 calls 0 depth 0 result -1 -1";
        int[] runs = {0, 1, 2, 40, 3};
        for (int run : runs) {
            Due.same("start", x.start(run == 3 ? 2 : 100), true);
            Due.same("ready", Programs.all(x), ready);
            if (run != 0) {
                x.run(run);
            }
        }
        Due.same("out of fuel", x.getStatus(), SizedTermination.ST_OUT_OF_FUEL);
        Programs.putNat(x, 0, 1);
        Due.same("start after the end", Programs.outcome(x, 9), "status 2 calls 3 depth 0 result 0");
        Due.same("start", x.start(9), true);
        Due.same("result gone", Programs.all(x), ready);
    }

    /** With a fuel of 1, or less, MAIN itself still begins; only a second BEGIN does not. */
    private static void leastFuel() {
        SizedTermination x = Programs.one("N>N", "caseN v0 zero call0 v0");
        Due.same("compile", x.compile(), SizedTermination.CODE_DESCENT);
        int[] least = {Integer.MIN_VALUE, Integer.MIN_VALUE + 1, -100000, -1, 0, 1};
        for (int fuel : least) {
            Programs.putNat(x, 0, 0);
            Due.same("enough", Programs.outcome(x, fuel), "status 2 calls 1 depth 0 result 0");
            Programs.putNat(x, 0, 1);
            Due.same("too little", Programs.outcome(x, fuel), "status 3 calls 1 depth 1 result -1");
        }
        Due.same("2", Programs.outcome(x, 2), "status 3 calls 2 depth 2 result -1");
    }

    /** "It works in any status, ending any earlier run." */
    private static void everyStatus() {
        SizedTermination x = new SizedTermination(6);
        Programs.declare(x, "NN>N", "caseN v0 v1 caseN v1 call0 v0 v1 call0 v2 succ v1");
        Due.same("compile", x.compile(), SizedTermination.CODE_DESCENT);
        int[][] inputs = {{2, 2, 50}, {6, 6, 50}, {1, 0, 50}, {1, 0, 3}};
        int[] ends = {SizedTermination.ST_DONE, SizedTermination.ST_OVERFLOW, SizedTermination.ST_TOO_DEEP,
            SizedTermination.ST_OUT_OF_FUEL};
        for (int before = 0; before < ends.length; before++) {
            for (int after = 0; after < ends.length; after++) {
                endsIn(x, inputs[before], ends[before]);
                endsIn(x, inputs[after], ends[after]);
                Due.same("compile", x.compile(), SizedTermination.CODE_DESCENT);
                endsIn(x, inputs[after], ends[after]);
                Due.same("start", x.start(50), true);
                x.run(1);
                endsIn(x, inputs[after], ends[after]);
            }
        }
    }

    private static void endsIn(SizedTermination x, int[] inputs, int end) {
        Programs.putNat(x, 0, inputs[0]);
        Programs.putNat(x, 1, inputs[1]);
        Due.same("start", x.start(inputs[2]), true);
        Due.same("ready", Programs.all(x), "code 6 fault 0 bound 0 status 1 calls 0 depth 0 result -1 -1");
        Due.same("end of " + inputs[0] + " and " + inputs[1], x.run(200), end);
        Due.same("a result", x.resultNat() >= 0, end == SizedTermination.ST_DONE);
    }

    /** "slots 0..p_MAIN-1 are copied as MAIN's arguments" */
    private static void copiesTheSlots() {
        SizedTermination x = new SizedTermination(6);
        Programs.declare(x, "NLN>L", "cons v0 cons v2 v1");
        x.compile();
        Programs.putNat(x, 0, 1);
        Programs.putList(x, 1, 2, 3, 4);
        Programs.putNat(x, 2, 5);
        x.start(0);
        Programs.putList(x, 0, 6);
        Programs.putNat(x, 1, 6);
        Programs.putList(x, 2);
        x.run(1);
        Due.same("what was copied", Programs.result(x), "[1 5 2 3 4]");
        Due.same("not what is held", Probe.slots(x), "[6] 6 []");
    }
}
