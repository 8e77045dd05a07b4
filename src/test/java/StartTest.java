/** Promise 8. */
public final class StartTest {
    public static void main(String[] args) {
        refusedCodes();
        slotTypes();
        refusalChangesNothing();
        fuelOfAcceptedProgram();
        fuelOfOthers();
        anyStatus();
        Due.end();
    }

    private static void refusedCodes() {
        SizedTermination x = new SizedTermination(6);
        refused(x, "code 0");
        x.compile();
        refused(x, "code 7");
        String[] bodies = {"succ", "v1", "call1", "nil"};
        for (int i = 0; i < bodies.length; i++) {
            x.clearProgram();
            Programs.declare(x, "N>N", bodies[i]);
            refused(x, "code 0");
            x.compile();
            refused(x, "code " + (i + 2));
        }
    }

    private static void refused(SizedTermination x, String code) {
        Due.same("code", Programs.check(x).startsWith(code), true);
        String before = Programs.all(x);
        Due.same("start with " + code, x.start(10), false);
        Due.same("unchanged", Programs.all(x), before);
        Due.same("run", x.run(1), SizedTermination.ST_IDLE);
    }

    /** Every signature against every filling of the slots. */
    private static void slotTypes() {
        for (int count = 1; count <= 3; count++) {
            for (int mask = 0; mask < 8; mask++) {
                for (int held = 0; held < 8; held++) {
                    SizedTermination x = new SizedTermination(6);
                    x.function(count, mask, 0);
                    x.node(SizedTermination.K_ZERO, 0);
                    x.compile();
                    for (int slot = 0; slot < 3; slot++) {
                        x.input(slot, (held >> slot & 1) == 1 ? 1 : 0, 0);
                    }
                    int looked = (1 << count) - 1;
                    boolean fits = (held & looked) == (mask & looked);
                    Due.same(count + " of " + mask + " given " + held, x.start(0), fits);
                    Due.same("status", x.getStatus(), fits ? 1 : 0);
                }
            }
        }
        // Only MAIN's parameters matter, and MAIN is the last function.
        SizedTermination x = Programs.one("LLL>N", "zero");
        Programs.declare(x, "N>N", "v0");
        x.compile();
        Due.same("MAIN is the last", x.start(0), true);
        Programs.declare(x, "L>L", "v0");
        x.compile();
        Due.same("MAIN is the last now", x.start(0), false);
    }

    private static void refusalChangesNothing() {
        SizedTermination x = Programs.one("N>N", Programs.HALF);
        x.compile();
        Programs.putNat(x, 0, 6);
        x.start(0);
        x.run(2);
        String before = Programs.all(x);
        Programs.putList(x, 0);
        Due.same("wrong slot in a run", x.start(0), false);
        Due.same("unchanged", Programs.all(x), before);
        x.run(9);
        Due.same("went on", x.resultNat(), 3);
        Due.same("wrong slot after a run", x.start(0), false);
        Due.same("result stays", x.resultNat(), 3);
    }

    private static void fuelOfAcceptedProgram() {
        SizedTermination x = Programs.one("N>N", Programs.HALF);
        x.compile();
        Programs.putNat(x, 0, 6);
        int[] fuels = {Integer.MIN_VALUE, -1, 0, 1, 3, 1000000, Integer.MAX_VALUE};
        for (int fuel : fuels) {
            Due.same("fuel " + fuel, Programs.outcome(x, fuel), "status 2 calls 4 depth 0 result 3");
        }
        Due.same("bound", x.getBound(), 7);
    }

    /** Two self-calls on n - 1, in the second of which the check sees no descent. */
    private static final String TREE = "caseN v0 zero caseN call0 v1 call0 caseN v1 v1 v1 zero";

    private static void fuelOfOthers() {
        SizedTermination x = Programs.one("N>N", TREE);
        Due.same("not seen to descend", x.compile(), SizedTermination.CODE_DESCENT);
        Programs.putNat(x, 0, 4);
        Due.same("31 are needed", Programs.outcome(x, 31), "status 2 calls 31 depth 0 result 0");
        Due.same("30 are too few", Programs.outcome(x, 30), "status 3 calls 30 depth 4 result -1");
        Due.same("1", Programs.outcome(x, 1), "status 3 calls 1 depth 1 result -1");
        Due.same("0 becomes 1", Programs.outcome(x, 0), "status 3 calls 1 depth 1 result -1");
        Due.same("less becomes 1", Programs.outcome(x, Integer.MIN_VALUE),
            "status 3 calls 1 depth 1 result -1");
        // Three calls at each of twelve levels: far beyond MAX_FUEL, and within MAX_DEPTH.
        x = new SizedTermination(12);
        Programs.declare(x, "NN>N", "caseN v0 caseN v1 zero call0 v1 zero"
            + " caseN call0 v2 v1 caseN call0 v2 v1 call0 v2 v1 zero zero");
        Due.same("compile", x.compile(), SizedTermination.CODE_DESCENT);
        Programs.putNat(x, 0, 12);
        Programs.putNat(x, 1, 2);
        mostFuel(x, SizedTermination.MAX_FUEL);
        mostFuel(x, SizedTermination.MAX_FUEL + 1);
        mostFuel(x, Integer.MAX_VALUE);
        Due.same("one less", Programs.outcome(x, 99999).startsWith("status 3 calls 99999 "), true);
    }

    private static void mostFuel(SizedTermination x, int fuel) {
        Due.same("fuel " + fuel, Programs.outcome(x, fuel).startsWith("status 3 calls 100000 "), true);
    }

    private static void anyStatus() {
        SizedTermination x = Programs.one("N>N", TREE);
        x.compile();
        Programs.putNat(x, 0, 4);
        String ready = "code 6 fault 0 bound 0 status 1 calls 0 depth 0 result -1 -1";
        int[] runs = {0, 1, 2, 40, 3};
        for (int run : runs) {
            Due.same("start", x.start(run == 3 ? 2 : 100), true);
            Due.same("ready", Programs.all(x), ready);
            if (run != 0) {
                x.run(run);
            }
        }
        Due.same("out of fuel", x.getStatus(), SizedTermination.ST_OUT_OF_FUEL);
        Programs.putNat(x, 0, 1);
        Due.same("start after the end", Programs.outcome(x, 9), "status 2 calls 3 depth 0 result 0");
        Due.same("start", x.start(9), true);
        Due.same("result gone", Programs.all(x), ready);
    }
}
