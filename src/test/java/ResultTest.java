/** Promise 11. */
public final class ResultTest {
    public static void main(String[] args) {
        natural();
        list();
        everyLengthAndCap();
        noneBeforeTheEnd();
        noneAfterABadEnd();
        Due.end();
    }

    private static final int[] INDEXES = {Integer.MIN_VALUE, -16, -1, 0, 1, 2, 3, 4, 5, 11, 12, 13, 15,
        16, 17, 31, 32, 64, Integer.MAX_VALUE};

    private static void expect(SizedTermination x, int nat, int... elements) {
        boolean isList = nat == -1 && elements != null;
        for (int again = 0; again < 2; again++) {
            Due.same("resultNat", x.resultNat(), nat);
            Due.same("resultLength", x.resultLength(), isList ? elements.length : -1);
            for (int i : INDEXES) {
                boolean inside = isList && i >= 0 && i < elements.length;
                Due.same("resultElem(" + i + ")", x.resultElem(i), inside ? elements[i] : -1);
            }
        }
    }

    /** "with status ST_DONE and a natural result, the result; otherwise -1" */
    private static void natural() {
        SizedTermination x = new SizedTermination(12);
        Programs.declare(x, "N>N", "v0");
        x.compile();
        for (int value = 0; value <= 12; value++) {
            Programs.putNat(x, 0, value);
            Programs.outcome(x, 0);
            expect(x, value, null);
        }
    }

    /** "a list result and 0 <= i < length, element i (0 is the front); otherwise -1" */
    private static void list() {
        SizedTermination x = new SizedTermination(12);
        Programs.declare(x, "L>L", "v0");
        x.compile();
        int[][] lists = {{}, {0}, {12}, {0, 0}, {1, 2, 3}, {12, 0, 12, 0}, {3, 1, 4, 1, 5},
            {12, 11, 10, 9, 8, 7, 6, 5, 4, 3, 2, 1}, {0, 0, 0, 0, 0, 0, 0, 0, 0, 0, 0, 0},
            {12, 12, 12, 12, 12, 12, 12, 12, 12, 12, 12, 12}};
        for (int[] list : lists) {
            Programs.putList(x, 0, list);
            Programs.outcome(x, 0);
            expect(x, -1, list);
        }
        // The type of the result is MAIN's, not that of a function it calls.
        x.clearProgram();
        Programs.declare(x, "L>N", "caseL v0 zero v1");
        Programs.declare(x, "L>L", "cons call0 v0 nil");
        x.compile();
        Programs.putList(x, 0, 7, 8);
        Programs.outcome(x, 0);
        expect(x, -1, 7);
        Programs.declare(x, "L>N", "call0 call1 v0");
        x.compile();
        Programs.outcome(x, 0);
        expect(x, 7, null);
    }

    /** From the empty list to the full one, by inputs and by the run itself. */
    private static void everyLengthAndCap() {
        for (int m = 1; m <= 12; m++) {
            for (int length = 0; length <= m; length++) {
                int[] list = new int[length];
                for (int i = 0; i < length; i++) {
                    list[i] = (m + i) % (m + 1);
                }
                SizedTermination x = new SizedTermination(m);
                Programs.declare(x, "LL>L", Programs.APPEND);
                x.compile();
                Programs.putList(x, 0, list);
                Programs.putList(x, 1);
                Programs.outcome(x, 0);
                expect(x, -1, list);
                x.clearProgram();
                Programs.declare(x, "L>L", "v0");
                x.compile();
                Programs.outcome(x, 0);
                expect(x, -1, list);
            }
        }
    }

    /** "otherwise -1": with no run, before its start, at a pause, after compile and after an edit. */
    private static void noneBeforeTheEnd() {
        SizedTermination x = new SizedTermination(6);
        expect(x, -1, null);
        Programs.declare(x, "LL>L", Programs.APPEND);
        expect(x, -1, null);
        x.compile();
        expect(x, -1, null);
        Programs.putList(x, 0, 1, 2);
        Programs.putList(x, 1, 3);
        x.start(0);
        expect(x, -1, null);
        x.run(1);
        expect(x, -1, null);
        x.run(2);
        expect(x, -1, 1, 2, 3);
        x.input(0, SizedTermination.IN_NIL, 0);
        expect(x, -1, 1, 2, 3);
        x.run(1);
        expect(x, -1, 1, 2, 3);
        x.start(0);
        expect(x, -1, null);
        x.run(1);
        expect(x, -1, 3);
        x.compile();
        expect(x, -1, null);
        Programs.outcome(x, 0);
        x.node(SizedTermination.K_NIL, 0);
        expect(x, -1, null);
        noneOfTheOldRun();
    }

    /** A result that was there before is none while the next run is under way. */
    private static void noneOfTheOldRun() {
        SizedTermination x = Programs.one("N>N", Programs.HALF);
        x.compile();
        Programs.putNat(x, 0, 6);
        Programs.outcome(x, 0);
        expect(x, 3, null);
        x.start(0);
        for (int i = 0; i < 4; i++) {
            expect(x, -1, null);
            x.run(1);
        }
        expect(x, 3, null);
        Due.same("refused", x.function(4, 0, 0), -1);
        expect(x, 3, null);
        Due.same("function", x.function(1, 0, 0), 1);
        expect(x, -1, null);
        x.clearProgram();
        expect(x, -1, null);
    }

    /** "with status ST_DONE": in no other end is there a result. */
    private static void noneAfterABadEnd() {
        SizedTermination x = Programs.one("N>N", Programs.LOOP);
        x.compile();
        Programs.outcome(x, 3);
        Due.same("out of fuel", x.getStatus(), SizedTermination.ST_OUT_OF_FUEL);
        expect(x, -1, null);
        Programs.outcome(x, 100);
        Due.same("too deep", x.getStatus(), SizedTermination.ST_TOO_DEEP);
        expect(x, -1, null);
        x = Programs.one("NL>L", "cons v0 v1");
        x.compile();
        Programs.putList(x, 1, 1, 2, 3, 4, 5, 6);
        Programs.outcome(x, 0);
        Due.same("overflow", x.getStatus(), SizedTermination.ST_OVERFLOW);
        expect(x, -1, null);
    }
}
