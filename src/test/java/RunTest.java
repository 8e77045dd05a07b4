/** Promise 9; RefusalTest and EveryStateTest run in every state. */
public final class RunTest {
    private static final int READY = SizedTermination.ST_READY;

    public static void main(String[] args) {
        notReady();
        values();
        callByValue();
        pendingValues();
        overflow();
        overflowInOrder();
        beginTestsInOrder();
        beginTestsTogether();
        depthToItsLimit();
        pauses();
        pauseKeepsTheArguments();
        clampOfK();
        everySplittingGivesTheSame();
        boundReached();
        Due.end();
    }

    private static void run(String want, int m, int nat, int[] list, String signature, String body) {
        SizedTermination x = new SizedTermination(m);
        Programs.declare(x, signature, body);
        x.compile();
        if (signature.startsWith("NL")) {
            Programs.putNat(x, 0, nat);
            Programs.putList(x, 1, list);
        } else if (signature.startsWith("L")) {
            Programs.putList(x, 0, list);
        } else {
            Programs.putNat(x, 0, nat);
        }
        Due.same(signature + " '" + body + "' of " + nat, Programs.outcome(x, 50), want);
    }

    /** "if the status is not ST_READY, it answers the status and nothing changes" */
    private static void notReady() {
        SizedTermination x = new SizedTermination(6);
        Due.same("run of nothing", x.run(1), SizedTermination.ST_IDLE);
        Programs.declare(x, "N>N", "v0");
        x.compile();
        int[] ks = {Integer.MIN_VALUE, 0, 1, 200, Integer.MAX_VALUE};
        for (int k : ks) {
            Due.same("no start", x.run(k), SizedTermination.ST_IDLE);
        }
        Due.same("state", Programs.all(x), Programs.RESET.replace("code 0", "code 1").replace("bound 0", "bound 1"));
        x.start(0);
        x.run(1);
        String done = Programs.all(x);
        for (int k : ks) {
            Due.same("done", x.run(k), SizedTermination.ST_DONE);
        }
        Due.same("unchanged", Programs.all(x), done);
    }

    /** "VAR: its value. ZERO: 0. NIL: the empty list."; "then only the chosen branch" */
    private static void values() {
        int[] list = {4, 2, 5};
        run("status 2 calls 1 depth 0 result 3", 6, 3, list, "N>N", "v0");
        run("status 2 calls 1 depth 0 result 0", 6, 3, list, "N>N", "zero");
        run("status 2 calls 1 depth 0 result []", 6, 3, list, "N>L", "nil");
        run("status 2 calls 1 depth 0 result 5", 6, 3, list, "N>N", "succ succ v0");
        run("status 2 calls 1 depth 0 result [4 2 5]", 6, 3, list, "L>L", "v0");
        run("status 2 calls 1 depth 0 result [3 4 2 5]", 6, 3, list, "NL>L", "cons v0 v1");
        run("status 2 calls 1 depth 0 result [0 1 4 2 5]", 6, 3, list, "L>L", "cons zero cons succ zero v0");
        run("status 2 calls 1 depth 0 result 1", 6, 0, list, "N>N", "caseN v0 succ zero v1");
        run("status 2 calls 1 depth 0 result 2", 6, 3, list, "N>N", "caseN v0 succ zero v1");
        run("status 2 calls 1 depth 0 result 0", 6, 1, list, "N>N", "caseN v0 succ zero v1");
        run("status 2 calls 1 depth 0 result 4", 6, 3, list, "L>N", "caseL v0 zero v1");
        run("status 2 calls 1 depth 0 result [2 5]", 6, 3, list, "L>L", "caseL v0 nil v2");
        run("status 2 calls 1 depth 0 result 5", 6, 3, list, "L>N",
            "caseL v0 zero caseL v2 zero caseL v4 zero v5");
        run("status 2 calls 1 depth 0 result []", 6, 3, list, "L>L",
            "caseL v0 nil caseL v2 nil caseL v4 nil v6");
        run("status 2 calls 1 depth 0 result 6", 6, 3, new int[0], "L>N",
            "caseL v0 succ succ succ succ succ succ zero v1");
        // The levels of a CASE in child0 are the outer CASE's own in child2.
        run("status 2 calls 1 depth 0 result 0", 6, 3, list, "N>N", "caseN caseN v0 zero v1 zero caseN v1 v1 v2");
        run("status 2 calls 1 depth 0 result [3 2 1]", 6, 3, list, "NL>L",
            "cons v0 caseN v0 nil cons v2 caseN v2 nil cons v3 nil");
        int[] full = {12, 11, 10, 9, 8, 7, 6, 5, 4, 3, 2, 1};
        run("status 2 calls 1 depth 0 result [12 11 10 9 8 7 6 5 4 3 2 1]", 12, 0, full, "L>L",
            "caseL v0 nil cons v1 v2");
    }

    /** "CALL g: the children in order, then a BEGIN of an activation of g" */
    private static void callByValue() {
        SizedTermination x = Programs.one("LL>L", Programs.APPEND);
        Programs.declare(x, "LL>L", "caseL v0 v1 call1 v3 cons v2 v1");
        Programs.declare(x, "LLN>L", "call0 call1 v0 nil cons v2 v1");
        Due.same("compile", x.compile(), SizedTermination.CODE_OK);
        Programs.putList(x, 0, 1, 2, 3);
        Programs.putList(x, 1, 4, 5);
        Programs.putNat(x, 2, 6);
        Due.same("reverse and append", Programs.outcome(x, 1), "status 2 calls 9 depth 0 result [3 2 1 6 4 5]");
        // The arguments come before the call, left to right, whether or not they are used.
        x = Programs.one("N>N", Programs.LOOP);
        Programs.declare(x, "NN>N", "v0");
        Programs.declare(x, "N>N", "call1 succ v0 call0 v0");
        x.compile();
        Programs.putNat(x, 0, 6);
        Due.same("overflow of the first comes first", runStatus(x), "status 4 calls 1 depth 1 result -1");
        Programs.putNat(x, 0, 5);
        Due.same("the second never ends", runStatus(x), "status 5 calls 16 depth 16 result -1");
        // Only the chosen branch is evaluated.
        x = Programs.one("N>N", "caseN v0 zero call0 succ succ succ succ succ succ succ zero");
        Due.same("compile", x.compile(), SizedTermination.CODE_DESCENT);
        Due.same("child1", runStatus(x), "status 2 calls 1 depth 0 result 0");
        Programs.putNat(x, 0, 1);
        Due.same("child2", runStatus(x), "status 4 calls 1 depth 1 result -1");
        // Arguments in order, three at a time, each a call of its own.
        x = Programs.one("N>N", "succ v0");
        Programs.declare(x, "NNN>L", "cons v0 cons v1 cons v2 nil");
        Programs.declare(x, "N>L", "call1 call0 v0 call0 call0 v0 call0 call0 call0 v0");
        x.compile();
        Programs.putNat(x, 0, 2);
        Due.same("in order", runStatus(x), "status 2 calls 8 depth 0 result [3 4 5]");
    }

    /** What waits for a later child stays as it was, however many activations come between. */
    private static void pendingValues() {
        SizedTermination x = new SizedTermination(12);
        Programs.declare(x, "N>L", "caseN v0 nil cons v0 cons v0 call0 v1");
        x.compile();
        Programs.putNat(x, 0, 5);
        Due.same("heads", runStatus(x), "status 2 calls 6 depth 0 result [5 5 4 4 3 3 2 2 1 1]");
        x.clearProgram();
        Programs.declare(x, "NNN>N", "v1");
        Programs.declare(x, "N>N", "caseN v0 zero call0 v1 succ zero call1 v1");
        x.compile();
        Due.same("arguments", runStatus(x), "status 2 calls 11 depth 0 result 1");
        // At the greatest depth there is.
        x.clearProgram();
        Programs.declare(x, "NL>L", "caseN v0 caseL v1 nil cons v2 call0 v0 v3 call0 v2 v1");
        x.compile();
        Programs.putNat(x, 0, 3);
        Programs.putList(x, 1, 12, 11, 10, 9, 8, 7, 6, 5, 4, 3, 2, 1);
        Due.same("depth 16", runStatus(x),
            "status 2 calls 16 depth 0 result [12 11 10 9 8 7 6 5 4 3 2 1]");
        Programs.putNat(x, 0, 4);
        Due.same("depth 17", runStatus(x), "status 5 calls 16 depth 16 result -1");
    }

    private static String runStatus(SizedTermination x) {
        return Programs.outcome(x, 1000);
    }

    /** "SUCC: .. if it is M, the run ends with ST_OVERFLOW"; "CONS: .. if the tail's length is M" */
    private static void overflow() {
        for (int m = 1; m <= 12; m++) {
            run("status 2 calls 1 depth 0 result " + m, m, m - 1, null, "N>N", "succ v0");
            run("status 4 calls 1 depth 1 result -1", m, m, null, "N>N", "succ v0");
            run("status 4 calls 1 depth 1 result -1", m, m, null, "N>N", "caseN succ v0 zero zero");
            int[] full = new int[m];
            run("status 4 calls 1 depth 1 result -1", m, 0, full, "NL>L", "cons v0 v1");
            run("status 4 calls 1 depth 1 result -1", m, 0, full, "NL>N", "caseL cons v0 v1 zero v2");
            int[] lessOne = new int[m - 1];
            SizedTermination x = new SizedTermination(m);
            Programs.declare(x, "L>L", "cons zero v0");
            x.compile();
            Programs.putList(x, 0, lessOne);
            Programs.outcome(x, 0);
            Due.same("grown to M", x.resultLength(), m);
        }
        // A full tail of small elements overflows; a largest head does not.
        run("status 2 calls 1 depth 0 result [6 6]", 6, 6, new int[] {6}, "NL>L", "cons v0 v1");
        // The head is evaluated before the tail's length is looked at.
        SizedTermination x = Programs.one("N>N", Programs.LOOP);
        Programs.declare(x, "NL>L", "cons call0 v0 v1");
        x.compile();
        Programs.putList(x, 1, 0, 0, 0, 0, 0, 0);
        Due.same("head first", runStatus(x), "status 5 calls 16 depth 16 result -1");
        x.clearProgram();
        Programs.declare(x, "N>N", "succ v0");
        Programs.declare(x, "N>N", "call0 v0");
        x.compile();
        Programs.putNat(x, 0, 6);
        Due.same("depth kept", runStatus(x), "status 4 calls 2 depth 2 result -1");
        Due.same("for good", x.run(5), SizedTermination.ST_OVERFLOW);
        Due.same("kept still", Programs.machine(x), "status 4 calls 2 depth 2");
    }

    /** What stands before the overflowing node is evaluated first, what stands behind it never. */
    private static void overflowInOrder() {
        SizedTermination x = new SizedTermination(6);
        Programs.declare(x, "N>N", "v0");
        Programs.declare(x, "L>L", "v0");
        Programs.declare(x, "NNN>N", "v0");
        Programs.declare(x, "N>L", "cons succ v0 call1 nil");
        Programs.putNat(x, 0, 6);
        mainIs(x, "status 4 calls 1 depth 1 result -1");
        Programs.declare(x, "N>L", "cons call0 v0 cons succ v0 call1 nil");
        mainIs(x, "status 4 calls 2 depth 1 result -1");
        x.clearProgram();
        Programs.declare(x, "N>N", "v0");
        Programs.declare(x, "NNN>N", "v0");
        Programs.declare(x, "N>N", "call1 call0 v0 succ v0 call0 v0");
        mainIs(x, "status 4 calls 2 depth 1 result -1");
        Programs.declare(x, "N>N", "call1 call0 v0 call0 v0 succ v0");
        mainIs(x, "status 4 calls 3 depth 1 result -1");
        Programs.declare(x, "N>N", "caseN succ call0 v0 call0 v0 call0 v0");
        mainIs(x, "status 4 calls 2 depth 1 result -1");
        // Not taken, not evaluated: neither branch that is not chosen can overflow.
        x.clearProgram();
        Programs.declare(x, "N>N", "caseN v0 zero succ succ v1");
        mainIs(x, "status 4 calls 1 depth 1 result -1");
        Programs.putNat(x, 0, 0);
        mainIs(x, "status 2 calls 1 depth 0 result 0");
        x.clearProgram();
        Programs.declare(x, "LN>N", "caseL v0 succ v1 v2");
        Programs.putList(x, 0);
        Programs.putNat(x, 1, 6);
        mainIs(x, "status 4 calls 1 depth 1 result -1");
        Programs.putList(x, 0, 3);
        mainIs(x, "status 2 calls 1 depth 0 result 3");
    }

    private static void mainIs(SizedTermination x, String want) {
        Due.same("compile", x.compile(), SizedTermination.CODE_OK);
        Due.same("outcome", runStatus(x), want);
    }

    /** "A BEGIN applies these tests in order, whatever the code (CODE_OK included)" */
    private static void beginTestsInOrder() {
        SizedTermination x = Programs.one("N>N", Programs.LOOP);
        x.compile();
        // Fuel and depth both used up: fuel is looked at first.
        Due.same("fuel before depth", Programs.outcome(x, 16), "status 3 calls 16 depth 16 result -1");
        Due.same("depth", Programs.outcome(x, 17), "status 5 calls 16 depth 16 result -1");
        Due.same("fuel", Programs.outcome(x, 15), "status 3 calls 15 depth 15 result -1");
        Due.same("for good", x.run(1), SizedTermination.ST_OUT_OF_FUEL);
        // Fuel and depth come before the pause.
        x.start(3);
        Due.same("fuel before pause", x.run(3), SizedTermination.ST_OUT_OF_FUEL);
        x.start(4);
        Due.same("pause", x.run(3), READY);
        Due.same("at depth 3", Programs.machine(x), "status 1 calls 3 depth 3");
        Due.same("one more", x.run(1), SizedTermination.ST_OUT_OF_FUEL);
        x.start(100);
        Due.same("depth before pause", x.run(16), SizedTermination.ST_TOO_DEEP);
        x.start(100);
        Due.same("pause at 15", x.run(15), READY);
        Due.same("then too deep", x.run(1), SizedTermination.ST_TOO_DEEP);
        Due.same("for good", x.run(200), SizedTermination.ST_TOO_DEEP);
        Due.same("kept", Programs.machine(x), "status 5 calls 16 depth 16");

        // An accepted program can be too deep as well.
        x = new SizedTermination(12);
        Programs.declare(x, "NN>N", "caseN v0 caseN v1 zero call0 v0 v2 call0 v2 v1");
        Due.same("accepted", x.compile(), SizedTermination.CODE_OK);
        Programs.putNat(x, 0, 12);
        Programs.putNat(x, 1, 3);
        Due.same("depth 16 is enough", runStatus(x), "status 2 calls 16 depth 0 result 0");
        Programs.putNat(x, 1, 4);
        Due.same("depth 17 is not", runStatus(x), "status 5 calls 16 depth 16 result -1");
    }

    /** "(1) calls == fuel .. (2) depth == MAX_DEPTH .. (3) begun == k": any two at once, and all. */
    private static void beginTestsTogether() {
        SizedTermination x = Programs.one("N>N", Programs.LOOP);
        x.compile();
        for (int fuel = 1; fuel <= 20; fuel++) {
            for (int k = 1; k <= 20; k++) {
                Due.same("start", x.start(fuel), true);
                int most = Math.min(fuel, 16);
                int status = fuel <= 16 ? SizedTermination.ST_OUT_OF_FUEL : SizedTermination.ST_TOO_DEEP;
                Due.same("fuel " + fuel + " run(" + k + ")", x.run(k), k < most ? READY : status);
                int begun = Math.min(k, most);
                Due.same("begun", Programs.machine(x),
                    "status " + x.getStatus() + " calls " + begun + " depth " + begun);
                for (int i = 0; i < 20; i++) {
                    x.run(k);
                }
                Due.same("end", Programs.machine(x), "status " + status + " calls " + most + " depth " + most);
            }
        }
    }

    /** "(2) depth == MAX_DEPTH": sixteen at once is the most, and it is the depth that counts. */
    private static void depthToItsLimit() {
        SizedTermination x = new SizedTermination(12);
        Programs.declare(x, "N>N", "caseN v0 zero succ call0 v1");
        Programs.declare(x, "N>N", "call0 v0");
        Programs.declare(x, "N>N", "call1 v0");
        Programs.declare(x, "N>N", "call2 v0");
        Programs.putNat(x, 0, 12);
        Due.same("compile", x.compile(), SizedTermination.CODE_OK);
        Due.same("13 and 3", runStatus(x), "status 2 calls 16 depth 0 result 12");
        Programs.declare(x, "N>N", "call3 v0");
        Due.same("compile", x.compile(), SizedTermination.CODE_OK);
        Due.same("13 and 4", runStatus(x), "status 5 calls 16 depth 16 result -1");
        Programs.putNat(x, 0, 11);
        Due.same("12 and 4", runStatus(x), "status 2 calls 16 depth 0 result 11");
        // The full depth again and again in one run.
        x.clearProgram();
        Programs.declare(x, "N>N", "caseN v0 zero succ call0 v1");
        Programs.declare(x, "N>N", "call0 v0");
        Programs.declare(x, "N>N", "call1 v0");
        Programs.declare(x, "N>N", "call2 call2 call2 v0");
        Programs.putNat(x, 0, 12);
        Due.same("compile", x.compile(), SizedTermination.CODE_OK);
        Due.same("three times", runStatus(x), "status 2 calls 46 depth 0 result 12");
        Due.same("bound", x.getBound(), 46);
    }

    /** "the same BEGIN, its arguments kept, is tried again by the next run()" */
    private static void pauseKeepsTheArguments() {
        SizedTermination x = new SizedTermination(12);
        Programs.declare(x, "NLN>L", "caseN v0 cons v2 v1 call0 v3 cons v0 v1 succ v2");
        x.compile();
        Programs.putNat(x, 0, 5);
        Programs.putList(x, 1, 9, 8);
        Programs.putNat(x, 2, 3);
        x.start(0);
        for (int i = 1; i <= 5; i++) {
            Due.same("pause", x.run(1), READY);
            Due.same("calls", Programs.machine(x), "status 1 calls " + i + " depth " + i);
            // All that can be called without ending the run stands between.
            Programs.putList(x, 0, i);
            Programs.putNat(x, 1, i);
            Programs.putNat(x, 2, 12);
            Due.same("refused start", x.start(1), false);
            Due.same("refused node", x.node(8, 0), false);
            Due.same("refused function", x.function(0, 0, 0), -1);
            Due.same("no result", Programs.result(x) + x.resultElem(0), "-1-1");
        }
        Due.same("end", x.run(1), SizedTermination.ST_DONE);
        Due.same("result", Programs.result(x), "[8 1 2 3 4 5 9 8]");
    }

    /**
     * "never exhausts the fuel equal to the bound": a run that begins exactly as many
     * activations as the bound allows is done, and needs no more.
     */
    private static void boundReached() {
        for (int m = 1; m <= 12; m++) {
            ends(m, "N>N", "caseN v0 zero call0 v1", m + 1, m + 1);
            long tree = (2L << m) - 1;
            ends(m, "N>N", "caseN v0 zero caseL cons call0 v1 nil zero call0 v1", tree, tree);
        }
        // From the greatest sizes down to the least, one by one; at M = 3 that is the whole depth.
        String two = "caseN v1 caseN v0 zero call0 v2 G call0 v0 v2";
        ends(1, "NN>N", two.replace("G", "succ zero"), 15, 4);
        ends(2, "NN>N", two.replace("G", "succ succ zero"), 511, 9);
        ends(3, "NN>N", two.replace("G", "succ succ succ zero"), 65535, 16);
        ends(1, "NNN>N", "caseN v2 caseN v1 caseN v0 zero call0 v3 succ zero succ zero"
            + " call0 v0 v3 succ zero call0 v0 v1 v3", 3280, 8);
    }

    /** All slots hold M; the run is done after so many calls, whole or one at a time. */
    private static void ends(int m, String signature, String body, long bound, long calls) {
        SizedTermination x = new SizedTermination(m);
        Programs.declare(x, signature, body);
        Due.same("accepted '" + body + "'", x.compile(), SizedTermination.CODE_OK);
        Due.same("bound of '" + body + "'", x.getBound(), bound);
        for (int slot = 0; slot < 3; slot++) {
            Programs.putNat(x, slot, m);
        }
        Due.same("run of '" + body + "'", Programs.outcome(x, 1),
            "status 2 calls " + calls + " depth 0 result 0");
        x.start(1);
        for (long i = 1; i < calls; i++) {
            x.run(1);
        }
        Due.same("one before the end", x.getStatus(), READY);
        Due.same("the last", x.run(1), SizedTermination.ST_DONE);
    }

    /** "(3) begun == k: pause; the status stays ST_READY" */
    private static void pauses() {
        SizedTermination x = Programs.one("N>N", Programs.HALF);
        Programs.declare(x, "NN>N", "call0 call0 v1");
        x.compile();
        Programs.putNat(x, 1, 6);
        x.start(0);
        String[] want = {"status 1 calls 1 depth 1", "status 1 calls 2 depth 2",
            "status 1 calls 3 depth 3", "status 1 calls 4 depth 4", "status 1 calls 5 depth 1",
            "status 1 calls 6 depth 2", "status 2 calls 7 depth 0"};
        for (String state : want) {
            int status = x.run(1);
            Due.same("step", Programs.machine(x), state);
            Due.same("answer", status, x.getStatus());
        }
        Due.same("result", x.resultNat(), 1);
        // Exactly as many as are needed end the run; one fewer pauses.
        x.start(0);
        Due.same("six", x.run(6), READY);
        x.start(0);
        Due.same("seven", x.run(7), SizedTermination.ST_DONE);
    }

    /** "k is clamped into 1..MAX_RUN" */
    private static void clampOfK() {
        SizedTermination x = Programs.one("N>N", Programs.HALF);
        x.compile();
        Programs.putNat(x, 0, 6);
        int[] small = {Integer.MIN_VALUE, -1, 0, 1};
        for (int k : small) {
            x.start(0);
            Due.same("run(" + k + ")", x.run(k), READY);
            Due.same("begun one", Programs.machine(x), "status 1 calls 1 depth 1");
        }
        x = new SizedTermination(12);
        Programs.declare(x, "N>N", "caseN v0 zero caseN call0 v1 call0 v1 zero");
        x.compile();
        Programs.putNat(x, 0, 8);
        int[] large = {200, 201, 1000, Integer.MAX_VALUE};
        for (int k : large) {
            x.start(0);
            Due.same("run(" + k + ")", x.run(k), READY);
            Due.same("begun 200", x.getCalls(), 200);
            x.run(k);
            Due.same("begun 400", x.getCalls(), 400);
            Due.same("the rest", x.run(k), SizedTermination.ST_DONE);
            Due.same("all", x.getCalls(), 511);
        }
        x.start(0);
        x.run(199);
        Due.same("begun 199", x.getCalls(), 199);
    }

    /** "on any inputs and under any splitting into run() calls" */
    private static void everySplittingGivesTheSame() {
        SizedTermination x = new SizedTermination(5);
        Programs.declare(x, "LL>L", Programs.APPEND);
        Programs.declare(x, "L>L", "caseL v0 nil call0 call1 v2 cons v1 nil");
        x.compile();
        Programs.putList(x, 0, 1, 2, 3, 4, 5);
        String want = Programs.outcome(x, 0);
        Due.same("reverse", want, "status 2 calls 21 depth 0 result [5 4 3 2 1]");
        for (int k = 1; k <= 22; k++) {
            x.start(0);
            for (int i = 0; i < 30 && x.getStatus() == READY; i++) {
                x.run(k);
                boolean whole = x.getStatus() != READY || x.getCalls() == (i + 1) * (long) k;
                Due.same("begun " + k + " at a time", whole, true);
            }
            Due.same("split by " + k, Programs.machine(x) + " result " + Programs.result(x), want);
        }
    }
}
