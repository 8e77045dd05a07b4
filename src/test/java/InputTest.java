/** Promise 7. */
public final class InputTest {
    private static final int IN_NAT = SizedTermination.IN_NAT;
    private static final int IN_NIL = SizedTermination.IN_NIL;
    private static final int IN_CONS = SizedTermination.IN_CONS;

    public static void main(String[] args) {
        refusals();
        for (int m = 1; m <= 12; m++) {
            naturals(m);
            lists(m);
        }
        slotsAreApart();
        runKeepsItsArguments();
        Due.end();
    }

    private static void refusals() {
        SizedTermination x = new SizedTermination(6);
        Programs.putNat(x, 0, 5);
        Programs.putList(x, 1, 1, 2);
        int[] far = {-1, 3, 4, Integer.MIN_VALUE, Integer.MAX_VALUE};
        for (int wrong : far) {
            for (int op = 0; op < 3; op++) {
                Due.same("slot " + wrong, x.input(wrong, op, 0), false);
            }
            for (int slot = 0; slot < 3; slot++) {
                Due.same("op " + wrong, x.input(slot, wrong, 0), false);
            }
        }
        int[] outside = {-1, 7, 16, Integer.MIN_VALUE, Integer.MAX_VALUE};
        for (int value : outside) {
            for (int slot = 0; slot < 3; slot++) {
                Due.same("nat " + value, x.input(slot, IN_NAT, value), false);
                Due.same("cons " + value, x.input(slot, IN_CONS, value), false);
            }
        }
        Due.same("cons on a natural", x.input(0, IN_CONS, 1), false);
        Due.same("cons on the first zero", x.input(2, IN_CONS, 0), false);
        Due.same("slot 0", Programs.slot(x, "NLN", 0), "5");
        Due.same("slot 1", Programs.slot(x, "NLN", 1), "[1 2]");
        Due.same("slot 2", Programs.slot(x, "NLN", 2), "0");
    }

    private static void naturals(int m) {
        SizedTermination x = new SizedTermination(m);
        for (int slot = 0; slot < 3; slot++) {
            for (int value = 0; value <= m; value++) {
                Programs.putNat(x, slot, value);
                Due.same("natural", Programs.slot(x, "NNN", slot), "" + value);
            }
            Due.same("over M", x.input(slot, IN_NAT, m + 1), false);
            Due.same("unchanged", Programs.slot(x, "NNN", slot), "" + m);
        }
    }

    private static void lists(int m) {
        SizedTermination x = new SizedTermination(m);
        for (int slot = 0; slot < 3; slot++) {
            Due.same("nil, any value", x.input(slot, IN_NIL, Integer.MIN_VALUE + slot), true);
            Due.same("empty", Programs.slot(x, "LLL", slot), "[]");
            StringBuilder want = new StringBuilder();
            for (int n = 0; n < m; n++) {
                int value = (n * 5 + slot + m) % (m + 1);
                Due.same("cons", x.input(slot, IN_CONS, value), true);
                want.insert(0, n == 0 ? "" + value : value + " ");
                Due.same("grown", Programs.slot(x, "LLL", slot), "[" + want + "]");
            }
            Due.same("full", x.input(slot, IN_CONS, 0), false);
            Due.same("full stays", Programs.slot(x, "LLL", slot), "[" + want + "]");
        }
        Due.same("nil anew", x.input(1, IN_NIL, 99), true);
        Due.same("empty anew", Programs.slot(x, "LLL", 1), "[]");
        Programs.putNat(x, 1, m);
        Due.same("natural over a list", Programs.slot(x, "LNL", 1), "" + m);
        Due.same("no list now", x.input(1, IN_CONS, 0), false);
    }

    private static void slotsAreApart() {
        SizedTermination x = new SizedTermination(12);
        Programs.putList(x, 0, 12, 0, 11);
        Programs.putNat(x, 1, 9);
        Programs.putList(x, 2, 12, 12, 12, 12, 12, 12, 12, 12, 12, 12, 12, 12);
        Due.same("slot 0", Programs.slot(x, "LNL", 0), "[12 0 11]");
        Due.same("slot 1", Programs.slot(x, "LNL", 1), "9");
        Due.same("slot 2", Programs.slot(x, "LNL", 2), "[12 12 12 12 12 12 12 12 12 12 12 12]");
    }

    private static void runKeepsItsArguments() {
        SizedTermination x = Programs.one("N>N", Programs.HALF);
        x.compile();
        Programs.putNat(x, 0, 6);
        x.start(0);
        String ready = Programs.all(x);
        Programs.putNat(x, 0, 1);
        Due.same("state before the first run()", Programs.all(x), ready);
        x.run(1);
        String before = Programs.all(x);
        Programs.putList(x, 0, 1);
        Programs.putList(x, 1, 1);
        Due.same("state in a run", Programs.all(x), before);
        x.run(200);
        String done = Programs.all(x);
        Due.same("half of what was copied", x.resultNat(), 3);
        Programs.putNat(x, 0, 2);
        Due.same("state after a run", Programs.all(x), done);
        Due.same("next start", Programs.outcome(x, 0), "status 2 calls 2 depth 0 result 1");
    }
}
