/** Promise 1. */
public final class ConstructionTest {
    public static void main(String[] args) {
        int[] caps = {Integer.MIN_VALUE, -1, 0, 1, 2, 6, 11, 12, 13, 100, Integer.MAX_VALUE};
        int[] sizes = {1, 1, 1, 1, 2, 6, 11, 12, 12, 12, 12};
        for (int i = 0; i < caps.length; i++) {
            fresh(caps[i]);
            capIs(caps[i], sizes[i]);
        }
        Due.end();
    }

    private static void fresh(int cap) {
        SizedTermination x = new SizedTermination(cap);
        Due.same("fresh state", Programs.all(x), Programs.RESET);
        Due.same("no function for a node", x.node(SizedTermination.K_ZERO, 0), false);
        Due.same("compile", x.compile(), SizedTermination.CODE_EMPTY);
        for (int slot = 0; slot < 3; slot++) {
            Due.same("no list in slot", x.input(slot, SizedTermination.IN_CONS, 0), false);
        }
        Due.same("first function", x.function(3, 0, 0), 0);
        Due.same("node", x.node(SizedTermination.K_VAR, 2), true);
        Due.same("compile", x.compile(), SizedTermination.CODE_OK);
        Due.same("zeroes", Programs.outcome(x, 1), "status 2 calls 1 depth 0 result 0");
        for (int slot = 0; slot < 3; slot++) {
            Due.same("slot " + slot, Programs.slot(x, "NNN", slot), "0");
        }
    }

    private static void capIs(int cap, int m) {
        SizedTermination x = new SizedTermination(cap);
        Due.same("input M, cap " + cap, x.input(0, SizedTermination.IN_NAT, m), true);
        Due.same("input M + 1, cap " + cap, x.input(0, SizedTermination.IN_NAT, m + 1), false);
        Programs.declare(x, "N>N", Programs.HALF);
        x.compile();
        Due.same("bound tells M, cap " + cap, x.getBound(), m + 1);
        x.clearProgram();
        Programs.declare(x, "N>N", "v0");
        Due.same("compile", x.compile(), SizedTermination.CODE_OK);
        Due.same("M stays", x.input(0, SizedTermination.IN_NAT, m + 1), false);
        Due.same("M runs", Programs.outcome(x, 1), "status 2 calls 1 depth 0 result " + m);
    }
}
