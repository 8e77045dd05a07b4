/** Promise 1. */
public final class ConstructionTest {
    public static void main(String[] args) {
        int[] caps = {Integer.MIN_VALUE, Integer.MIN_VALUE + 1, -256, -1, 0, 1, 2, 6, 11, 12, 13, 14, 100,
            256, 65537, Integer.MAX_VALUE - 1, Integer.MAX_VALUE};
        int[] sizes = {1, 1, 1, 1, 1, 1, 2, 6, 11, 12, 12, 12, 12, 12, 12, 12, 12};
        for (int i = 0; i < caps.length; i++) {
            fresh(caps[i]);
            slotsHoldZero(caps[i]);
            naturalsTo(caps[i], sizes[i]);
            listsTo(caps[i], sizes[i]);
            boundBy(caps[i], sizes[i]);
            overflowAt(caps[i], sizes[i]);
            forLife(caps[i], sizes[i]);
        }
        Due.end();
    }

    /** "The fresh object has no functions and no nodes, is in the RESET state" */
    private static void fresh(int cap) {
        SizedTermination x = new SizedTermination(cap);
        Due.same("fresh state", Programs.all(x), Programs.RESET);
        Due.same("run", x.run(1), SizedTermination.ST_IDLE);
        Due.same("start", x.start(1), false);
        Due.same("no function for a node", x.node(SizedTermination.K_ZERO, 0), false);
        Due.same("compile", x.compile(), SizedTermination.CODE_EMPTY);
        for (int f = 0; f < 6; f++) {
            Due.same("function", x.function(1, 0, 0), f);
        }
        for (int n = 0; n < 64; n++) {
            Due.same("node", x.node(SizedTermination.K_ZERO, 0), true);
        }
    }

    /** "all three input slots hold the natural 0" */
    private static void slotsHoldZero(int cap) {
        SizedTermination x = new SizedTermination(cap);
        for (int slot = 0; slot < 3; slot++) {
            Due.same("no list in slot", x.input(slot, SizedTermination.IN_CONS, 0), false);
        }
        Due.same("slots", Probe.slots(x), "0 0 0");
    }

    /** "cap is clamped into 1..12 (below 1 becomes 1, above 12 becomes 12)" */
    private static void naturalsTo(int cap, int m) {
        SizedTermination x = new SizedTermination(cap);
        Due.same("input M, cap " + cap, x.input(0, SizedTermination.IN_NAT, m), true);
        Due.same("input M + 1, cap " + cap, x.input(0, SizedTermination.IN_NAT, m + 1), false);
        Due.same("slots", Probe.slots(x), m + " 0 0");
    }

    private static void listsTo(int cap, int m) {
        SizedTermination x = new SizedTermination(cap);
        x.input(2, SizedTermination.IN_NIL, 0);
        Due.same("element M + 1, cap " + cap, x.input(2, SizedTermination.IN_CONS, m + 1), false);
        for (int length = 1; length <= m; length++) {
            Due.same("length " + length + ", cap " + cap, x.input(2, SizedTermination.IN_CONS, m), true);
        }
        Due.same("length M + 1, cap " + cap, x.input(2, SizedTermination.IN_CONS, 0), false);
        String list = ("[" + (" " + m).repeat(m) + "]").replace("[ ", "[");
        Due.same("slots", Probe.slots(x), "0 0 " + list);
    }

    private static void boundBy(int cap, int m) {
        SizedTermination x = new SizedTermination(cap);
        Programs.declare(x, "N>N", Programs.HALF);
        x.compile();
        Due.same("bound tells M, cap " + cap, x.getBound(), m + 1);
    }

    private static void overflowAt(int cap, int m) {
        SizedTermination x = new SizedTermination(cap);
        Programs.declare(x, "N>N", "succ v0");
        x.compile();
        Programs.putNat(x, 0, m - 1);
        Due.same("M", Programs.outcome(x, 1), "status 2 calls 1 depth 0 result " + m);
        Programs.putNat(x, 0, m);
        Due.same("M + 1", Programs.outcome(x, 1), "status 4 calls 1 depth 1 result -1");
    }

    /** "that value is M for the life of the object" */
    private static void forLife(int cap, int m) {
        SizedTermination x = new SizedTermination(cap);
        for (int i = 0; i < 3; i++) {
            Programs.declare(x, "N>N", "v0");
            Due.same("compile", x.compile(), SizedTermination.CODE_OK);
            Due.same("M stays", x.input(0, SizedTermination.IN_NAT, m + 1), false);
            Programs.putNat(x, 0, m);
            Due.same("M runs", Programs.outcome(x, 1), "status 2 calls 1 depth 0 result " + m);
            x.clearProgram();
        }
        Due.same("M at last", Probe.cap(x), m);
    }
}
