/** Promise 9. */
public final class RunTest {
    private static final int READY = SizedTermination.ST_READY;

    public static void main(String[] args) {
        notReady();
        values();
        callByValue();
        pendingValues();
        overflow();
        beginTestsInOrder();
        pauses();
        clampOfK();
        everySplittingGivesTheSame();
        Due.end();
    }

    private static void run(String want, int m, int nat, int[] list, String signature, String body) {
        SizedTermination x = new SizedTermination(m);
        Programs.declare(x, signature, body);
        x.compile();
        if (signature.startsWith("NL")) {
            Programs.putNat(x, 0, nat);
            Programs.putList(x, 1, list);
        } else if (signature.startsWith("L")) {
            Programs.putList(x, 0, list);
        } else {
            Programs.putNat(x, 0, nat);
        }
        Due.same(signature + " '" + body + "' of " + nat, Programs.outcome(x, 50), want);
    }

    private static void notReady() {
        SizedTermination x = new SizedTermination(6);
        Due.same("run of nothing", x.run(1), SizedTermination.ST_IDLE);
        Programs.declare(x, "N>N", "v0");
        x.compile();
        int[] ks = {Integer.MIN_VALUE, 0, 1, 200, Integer.MAX_VALUE};
        for (int k : ks) {
            Due.same("no start", x.run(k), SizedTermination.ST_IDLE);
        }
        Due.same("state", Programs.all(x), Programs.RESET.replace("code 0", "code 1").replace("bound 0", "bound 1"));
        x.start(0);
        x.run(1);
        String done = Programs.all(x);
        for (int k : ks) {
            Due.same("done", x.run(k), SizedTermination.ST_DONE);
        }
        Due.same("unchanged", Programs.all(x), done);
    }

    private static void values() {
        int[] list = {4, 2, 5};
        run("status 2 calls 1 depth 0 result 3", 6, 3, list, "N>N", "v0");
        run("status 2 calls 1 depth 0 result 0", 6, 3, list, "N>N", "zero");
        run("status 2 calls 1 depth 0 result []", 6, 3, list, "N>L", "nil");
        run("status 2 calls 1 depth 0 result 5", 6, 3, list, "N>N", "succ succ v0");
        run("status 2 calls 1 depth 0 result [4 2 5]", 6, 3, list, "L>L", "v0");
        run("status 2 calls 1 depth 0 result [3 4 2 5]", 6, 3, list, "NL>L", "cons v0 v1");
        run("status 2 calls 1 depth 0 result [0 1 4 2 5]", 6, 3, list, "L>L", "cons zero cons succ zero v0");
        run("status 2 calls 1 depth 0 result 1", 6, 0, list, "N>N", "caseN v0 succ zero v1");
        run("status 2 calls 1 depth 0 result 2", 6, 3, list, "N>N", "caseN v0 succ zero v1");
        run("status 2 calls 1 depth 0 result 0", 6, 1, list, "N>N", "caseN v0 succ zero v1");
        run("status 2 calls 1 depth 0 result 4", 6, 3, list, "L>N", "caseL v0 zero v1");
        run("status 2 calls 1 depth 0 result [2 5]", 6, 3, list, "L>L", "caseL v0 nil v2");
        run("status 2 calls 1 depth 0 result 5", 6, 3, list, "L>N",
            "caseL v0 zero caseL v2 zero caseL v4 zero v5");
        run("status 2 calls 1 depth 0 result []", 6, 3, list, "L>L",
            "caseL v0 nil caseL v2 nil caseL v4 nil v6");
        run("status 2 calls 1 depth 0 result 6", 6, 3, new int[0], "L>N",
            "caseL v0 succ succ succ succ succ succ zero v1");
        // The levels of a CASE in child0 are the outer CASE's own in child2.
        run("status 2 calls 1 depth 0 result 0", 6, 3, list, "N>N", "caseN caseN v0 zero v1 zero caseN v1 v1 v2");
        run("status 2 calls 1 depth 0 result [3 2 1]", 6, 3, list, "NL>L",
            "cons v0 caseN v0 nil cons v2 caseN v2 nil cons v3 nil");
        int[] full = {12, 11, 10, 9, 8, 7, 6, 5, 4, 3, 2, 1};
        run("status 2 calls 1 depth 0 result [12 11 10 9 8 7 6 5 4 3 2 1]", 12, 0, full, "L>L",
            "caseL v0 nil cons v1 v2");
    }

    private static void callByValue() {
        SizedTermination x = Programs.one("LL>L", Programs.APPEND);
        Programs.declare(x, "LL>L", "caseL v0 v1 call1 v3 cons v2 v1");
        Programs.declare(x, "LLN>L", "call0 call1 v0 nil cons v2 v1");
        Due.same("compile", x.compile(), SizedTermination.CODE_OK);
        Programs.putList(x, 0, 1, 2, 3);
        Programs.putList(x, 1, 4, 5);
        Programs.putNat(x, 2, 6);
        Due.same("reverse and append", Programs.outcome(x, 1), "status 2 calls 9 depth 0 result [3 2 1 6 4 5]");
        // The arguments come before the call, left to right, whether or not they are used.
        x = Programs.one("N>N", Programs.LOOP);
        Programs.declare(x, "NN>N", "v0");
        Programs.declare(x, "N>N", "call1 succ v0 call0 v0");
        x.compile();
        Programs.putNat(x, 0, 6);
        Due.same("overflow of the first comes first", runStatus(x), "status 4 calls 1 depth 1 result -1");
        Programs.putNat(x, 0, 5);
        Due.same("the second never ends", runStatus(x), "status 5 calls 16 depth 16 result -1");
        // Only the chosen branch is evaluated.
        x = Programs.one("N>N", "caseN v0 zero call0 succ succ succ succ succ succ succ zero");
        Due.same("compile", x.compile(), SizedTermination.CODE_DESCENT);
        Due.same("child1", runStatus(x), "status 2 calls 1 depth 0 result 0");
        Programs.putNat(x, 0, 1);
        Due.same("child2", runStatus(x), "status 4 calls 1 depth 1 result -1");
        // Arguments in order, three at a time, each a call of its own.
        x = Programs.one("N>N", "succ v0");
        Programs.declare(x, "NNN>L", "cons v0 cons v1 cons v2 nil");
        Programs.declare(x, "N>L", "call1 call0 v0 call0 call0 v0 call0 call0 call0 v0");
        x.compile();
        Programs.putNat(x, 0, 2);
        Due.same("in order", runStatus(x), "status 2 calls 8 depth 0 result [3 4 5]");
    }

    /** What waits for a later child stays as it was, however many activations come between. */
    private static void pendingValues() {
        SizedTermination x = new SizedTermination(12);
        Programs.declare(x, "N>L", "caseN v0 nil cons v0 cons v0 call0 v1");
        x.compile();
        Programs.putNat(x, 0, 5);
        Due.same("heads", runStatus(x), "status 2 calls 6 depth 0 result [5 5 4 4 3 3 2 2 1 1]");
        x.clearProgram();
        Programs.declare(x, "NNN>N", "v1");
        Programs.declare(x, "N>N", "caseN v0 zero call0 v1 succ zero call1 v1");
        x.compile();
        Due.same("arguments", runStatus(x), "status 2 calls 11 depth 0 result 1");
        // At the greatest depth there is.
        x.clearProgram();
        Programs.declare(x, "NL>L", "caseN v0 caseL v1 nil cons v2 call0 v0 v3 call0 v2 v1");
        x.compile();
        Programs.putNat(x, 0, 3);
        Programs.putList(x, 1, 12, 11, 10, 9, 8, 7, 6, 5, 4, 3, 2, 1);
        Due.same("depth 16", runStatus(x),
            "status 2 calls 16 depth 0 result [12 11 10 9 8 7 6 5 4 3 2 1]");
        Programs.putNat(x, 0, 4);
        Due.same("depth 17", runStatus(x), "status 5 calls 16 depth 16 result -1");
    }

    private static String runStatus(SizedTermination x) {
        return Programs.outcome(x, 1000);
    }

    private static void overflow() {
        for (int m = 1; m <= 12; m++) {
            run("status 2 calls 1 depth 0 result " + m, m, m - 1, null, "N>N", "succ v0");
            run("status 4 calls 1 depth 1 result -1", m, m, null, "N>N", "succ v0");
            run("status 4 calls 1 depth 1 result -1", m, m, null, "N>N", "caseN succ v0 zero zero");
            int[] full = new int[m];
            run("status 4 calls 1 depth 1 result -1", m, 0, full, "NL>L", "cons v0 v1");
            run("status 4 calls 1 depth 1 result -1", m, 0, full, "NL>N", "caseL cons v0 v1 zero v2");
            int[] lessOne = new int[m - 1];
            SizedTermination x = new SizedTermination(m);
            Programs.declare(x, "L>L", "cons zero v0");
            x.compile();
            Programs.putList(x, 0, lessOne);
            Programs.outcome(x, 0);
            Due.same("grown to M", x.resultLength(), m);
        }
        // A full tail of small elements overflows; a largest head does not.
        run("status 2 calls 1 depth 0 result [6 6]", 6, 6, new int[] {6}, "NL>L", "cons v0 v1");
        // The head is evaluated before the tail's length is looked at.
        SizedTermination x = Programs.one("N>N", Programs.LOOP);
        Programs.declare(x, "NL>L", "cons call0 v0 v1");
        x.compile();
        Programs.putList(x, 1, 0, 0, 0, 0, 0, 0);
        Due.same("head first", runStatus(x), "status 5 calls 16 depth 16 result -1");
        x.clearProgram();
        Programs.declare(x, "N>N", "succ v0");
        Programs.declare(x, "N>N", "call0 v0");
        x.compile();
        Programs.putNat(x, 0, 6);
        Due.same("depth kept", runStatus(x), "status 4 calls 2 depth 2 result -1");
        Due.same("for good", x.run(5), SizedTermination.ST_OVERFLOW);
        Due.same("kept still", Programs.machine(x), "status 4 calls 2 depth 2");
    }

    private static void beginTestsInOrder() {
        SizedTermination x = Programs.one("N>N", Programs.LOOP);
        x.compile();
        // Fuel and depth both used up: fuel is looked at first.
        Due.same("fuel before depth", Programs.outcome(x, 16), "status 3 calls 16 depth 16 result -1");
        Due.same("depth", Programs.outcome(x, 17), "status 5 calls 16 depth 16 result -1");
        Due.same("fuel", Programs.outcome(x, 15), "status 3 calls 15 depth 15 result -1");
        Due.same("for good", x.run(1), SizedTermination.ST_OUT_OF_FUEL);
        // Fuel and depth come before the pause.
        x.start(3);
        Due.same("fuel before pause", x.run(3), SizedTermination.ST_OUT_OF_FUEL);
        x.start(4);
        Due.same("pause", x.run(3), READY);
        Due.same("at depth 3", Programs.machine(x), "status 1 calls 3 depth 3");
        Due.same("one more", x.run(1), SizedTermination.ST_OUT_OF_FUEL);
        x.start(100);
        Due.same("depth before pause", x.run(16), SizedTermination.ST_TOO_DEEP);
        x.start(100);
        Due.same("pause at 15", x.run(15), READY);
        Due.same("then too deep", x.run(1), SizedTermination.ST_TOO_DEEP);
        Due.same("for good", x.run(200), SizedTermination.ST_TOO_DEEP);
        Due.same("kept", Programs.machine(x), "status 5 calls 16 depth 16");

        // An accepted program can be too deep as well.
        x = new SizedTermination(12);
        Programs.declare(x, "NN>N", "caseN v0 caseN v1 zero call0 v0 v2 call0 v2 v1");
        Due.same("accepted", x.compile(), SizedTermination.CODE_OK);
        Programs.putNat(x, 0, 12);
        Programs.putNat(x, 1, 3);
        Due.same("depth 16 is enough", runStatus(x), "status 2 calls 16 depth 0 result 0");
        Programs.putNat(x, 1, 4);
        Due.same("depth 17 is not", runStatus(x), "status 5 calls 16 depth 16 result -1");
    }

    private static void pauses() {
        SizedTermination x = Programs.one("N>N", Programs.HALF);
        Programs.declare(x, "NN>N", "call0 call0 v1");
        x.compile();
        Programs.putNat(x, 1, 6);
        x.start(0);
        String[] want = {"status 1 calls 1 depth 1", "status 1 calls 2 depth 2",
            "status 1 calls 3 depth 3", "status 1 calls 4 depth 4", "status 1 calls 5 depth 1",
            "status 1 calls 6 depth 2", "status 2 calls 7 depth 0"};
        for (String state : want) {
            int status = x.run(1);
            Due.same("step", Programs.machine(x), state);
            Due.same("answer", status, x.getStatus());
        }
        Due.same("result", x.resultNat(), 1);
        // Exactly as many as are needed end the run; one fewer pauses.
        x.start(0);
        Due.same("six", x.run(6), READY);
        x.start(0);
        Due.same("seven", x.run(7), SizedTermination.ST_DONE);
    }

    private static void clampOfK() {
        SizedTermination x = Programs.one("N>N", Programs.HALF);
        x.compile();
        Programs.putNat(x, 0, 6);
        int[] small = {Integer.MIN_VALUE, -1, 0, 1};
        for (int k : small) {
            x.start(0);
            Due.same("run(" + k + ")", x.run(k), READY);
            Due.same("begun one", Programs.machine(x), "status 1 calls 1 depth 1");
        }
        x = new SizedTermination(12);
        Programs.declare(x, "N>N", "caseN v0 zero caseN call0 v1 call0 v1 zero");
        x.compile();
        Programs.putNat(x, 0, 8);
        int[] large = {200, 201, 1000, Integer.MAX_VALUE};
        for (int k : large) {
            x.start(0);
            Due.same("run(" + k + ")", x.run(k), READY);
            Due.same("begun 200", x.getCalls(), 200);
            x.run(k);
            Due.same("begun 400", x.getCalls(), 400);
            Due.same("the rest", x.run(k), SizedTermination.ST_DONE);
            Due.same("all", x.getCalls(), 511);
        }
        x.start(0);
        x.run(199);
        Due.same("begun 199", x.getCalls(), 199);
    }

    private static void everySplittingGivesTheSame() {
        SizedTermination x = new SizedTermination(5);
        Programs.declare(x, "LL>L", Programs.APPEND);
        Programs.declare(x, "L>L", "caseL v0 nil call0 call1 v2 cons v1 nil");
        x.compile();
        Programs.putList(x, 0, 1, 2, 3, 4, 5);
        String want = Programs.outcome(x, 0);
        Due.same("reverse", want, "status 2 calls 21 depth 0 result [5 4 3 2 1]");
        for (int k = 1; k <= 22; k++) {
            x.start(0);
            for (int i = 0; i < 30 && x.getStatus() == READY; i++) {
                x.run(k);
                boolean whole = x.getStatus() != READY || x.getCalls() == (i + 1) * (long) k;
                Due.same("begun " + k + " at a time", whole, true);
            }
            Due.same("split by " + k, Programs.machine(x) + " result " + Programs.result(x), want);
        }
    }
}
