/** Promise 7; RefusalTest and EveryStateTest set inputs in every state. */
public final class InputTest {
    private static final int IN_NAT = SizedTermination.IN_NAT;
    private static final int IN_NIL = SizedTermination.IN_NIL;
    private static final int IN_CONS = SizedTermination.IN_CONS;

    public static void main(String[] args) {
        refusals();
        for (int m = 1; m <= 12; m++) {
            naturals(m);
            lists(m);
        }
        nilTakesAnyValue();
        emptyListIsNotZero();
        slotsAreApart();
        runKeepsItsArguments();
        Due.end();
    }

    /** "slot is not in 0..2; or op is not in 0..2; .. value is not in 0..M" */
    private static void refusals() {
        SizedTermination x = new SizedTermination(6);
        Programs.putNat(x, 0, 5);
        Programs.putList(x, 1, 1, 2);
        int[] far = {-1, 3, 4, Integer.MIN_VALUE, Integer.MAX_VALUE};
        for (int wrong : far) {
            for (int op = 0; op < 3; op++) {
                Due.same("slot " + wrong, x.input(wrong, op, 0), false);
            }
            for (int slot = 0; slot < 3; slot++) {
                Due.same("op " + wrong, x.input(slot, wrong, 0), false);
            }
        }
        int[] outside = {-1, 7, 16, Integer.MIN_VALUE, Integer.MAX_VALUE};
        for (int value : outside) {
            for (int slot = 0; slot < 3; slot++) {
                Due.same("nat " + value, x.input(slot, IN_NAT, value), false);
                Due.same("cons " + value, x.input(slot, IN_CONS, value), false);
            }
        }
        Due.same("cons on a natural", x.input(0, IN_CONS, 1), false);
        Due.same("cons on the first zero", x.input(2, IN_CONS, 0), false);
        Due.same("slot 0", Programs.slot(x, "NLN", 0), "5");
        Due.same("slot 1", Programs.slot(x, "NLN", 1), "[1 2]");
        Due.same("slot 2", Programs.slot(x, "NLN", 2), "0");
    }

    /** "for IN_NAT, value is not in 0..M" */
    private static void naturals(int m) {
        SizedTermination x = new SizedTermination(m);
        for (int slot = 0; slot < 3; slot++) {
            for (int value = 0; value <= m; value++) {
                Programs.putNat(x, slot, value);
                Due.same("natural", Programs.slot(x, "NNN", slot), "" + value);
            }
            Due.same("over M", x.input(slot, IN_NAT, m + 1), false);
            Due.same("under 0", x.input(slot, IN_NAT, -1), false);
            Due.same("unchanged", Programs.slot(x, "NNN", slot), "" + m);
        }
    }

    /** "for IN_CONS, the slot does not hold a list, or its length is M, or value is not in 0..M" */
    private static void lists(int m) {
        SizedTermination x = new SizedTermination(m);
        for (int slot = 0; slot < 3; slot++) {
            Due.same("nil, any value", x.input(slot, IN_NIL, Integer.MIN_VALUE + slot), true);
            Due.same("empty", Programs.slot(x, "LLL", slot), "[]");
            StringBuilder want = new StringBuilder();
            for (int n = 0; n < m; n++) {
                int value = (n * 5 + slot + m) % (m + 1);
                Due.same("element over M", x.input(slot, IN_CONS, m + 1), false);
                Due.same("element under 0", x.input(slot, IN_CONS, -1), false);
                Due.same("cons", x.input(slot, IN_CONS, value), true);
                want.insert(0, n == 0 ? "" + value : value + " ");
                Due.same("grown", Programs.slot(x, "LLL", slot), "[" + want + "]");
            }
            Due.same("full", x.input(slot, IN_CONS, 0), false);
            Due.same("full stays", Programs.slot(x, "LLL", slot), "[" + want + "]");
        }
        Due.same("nil anew", x.input(1, IN_NIL, 99), true);
        Due.same("empty anew", Programs.slot(x, "LLL", 1), "[]");
        Programs.putNat(x, 1, m);
        Due.same("natural over a list", Programs.slot(x, "LNL", 1), "" + m);
        Due.same("no list now", x.input(1, IN_CONS, 0), false);
    }

    /** "IN_NIL: the slot := the empty list (value ignored, any int accepted)" */
    private static void nilTakesAnyValue() {
        int[] values = {Integer.MIN_VALUE, -1, 0, 1, 6, 7, 13, 256, Integer.MAX_VALUE};
        for (int value : values) {
            for (int slot = 0; slot < 3; slot++) {
                SizedTermination x = new SizedTermination(6);
                Due.same("nil over a natural", x.input(slot, IN_NIL, value), true);
                Due.same("empty", slotOf(x, slot), "[]");
                Due.same("cons", x.input(slot, IN_CONS, 6), true);
                Due.same("nil over a list", x.input(slot, IN_NIL, value), true);
                Due.same("empty again", slotOf(x, slot), "[]");
            }
        }
    }

    private static String slotOf(SizedTermination x, int slot) {
        String types = "NNN".substring(0, slot) + "L";
        return Programs.slot(x, types, slot);
    }

    /** A natural 0 takes no element, and an empty list does, also where the one followed the other. */
    private static void emptyListIsNotZero() {
        SizedTermination x = new SizedTermination(6);
        for (int i = 0; i < 3; i++) {
            Due.same("cons on 0", x.input(1, IN_CONS, 0), false);
            Due.same("nil", x.input(1, IN_NIL, 0), true);
            Due.same("cons on empty", x.input(1, IN_CONS, 0), true);
            Due.same("one zero", slotOf(x, 1), "[0]");
            Due.same("natural", x.input(1, IN_NAT, 0), true);
        }
        Due.same("0 at last", Programs.slot(x, "NN", 1), "0");
    }

    private static void slotsAreApart() {
        SizedTermination x = new SizedTermination(12);
        Programs.putList(x, 0, 12, 0, 11);
        Programs.putNat(x, 1, 9);
        Programs.putList(x, 2, 12, 12, 12, 12, 12, 12, 12, 12, 12, 12, 12, 12);
        Due.same("slot 0", Programs.slot(x, "LNL", 0), "[12 0 11]");
        Due.same("slot 1", Programs.slot(x, "LNL", 1), "9");
        Due.same("slot 2", Programs.slot(x, "LNL", 2), "[12 12 12 12 12 12 12 12 12 12 12 12]");
    }

    /** "a run already started keeps the arguments it copied" */
    private static void runKeepsItsArguments() {
        SizedTermination x = Programs.one("N>N", Programs.HALF);
        x.compile();
        Programs.putNat(x, 0, 6);
        x.start(0);
        String ready = Programs.all(x);
        Programs.putNat(x, 0, 1);
        Due.same("state before the first run()", Programs.all(x), ready);
        x.run(1);
        String before = Programs.all(x);
        Programs.putList(x, 0, 1);
        Programs.putList(x, 1, 1);
        Due.same("state in a run", Programs.all(x), before);
        x.run(200);
        String done = Programs.all(x);
        Due.same("half of what was copied", x.resultNat(), 3);
        Programs.putNat(x, 0, 2);
        Due.same("state after a run", Programs.all(x), done);
        Due.same("next start", Programs.outcome(x, 0), "status 2 calls 2 depth 0 result 1");
    }
}
