import java.math.BigInteger;

/** Promise 5, BOUND. */
public final class BoundTest {
    private static final long CAP = SizedTermination.BOUND_CAP;

    public static void main(String[] args) {
        byHand();
        withoutSelfCalls();
        selfCallsAgainstExactNumbers();
        justBelowTheCap();
        onEitherSideOfTheCap();
        whereIntsAndLongsWrap();
        chains();
        unreachedFunctionsDoNotCount();
        noBoundWithoutOk();
        Due.end();
    }

    private static void bound(int cap, long want, String... functions) {
        SizedTermination x = new SizedTermination(cap);
        for (String function : functions) {
            int colon = function.indexOf(':');
            Programs.declare(x, function.substring(0, colon), function.substring(colon + 1));
        }
        String what = String.join(" ; ", functions) + " at " + cap;
        Due.same("compile " + what, x.compile(), SizedTermination.CODE_OK);
        Due.same("bound " + what, x.getBound(), want);
    }

    private static void byHand() {
        bound(6, 1, "N>N:v0");
        bound(6, 1, "NNN>N:v2");
        bound(6, 7, "N>N:" + Programs.HALF);
        bound(1, 2, "N>N:" + Programs.HALF);
        bound(12, 13, "N>N:" + Programs.HALF);
        bound(6, 49, "LL>L:" + Programs.APPEND);
        bound(12, 169, "LL>L:" + Programs.APPEND);
        bound(12, 2197, "NNN>N:caseN v0 zero call0 v3 v1 v2");
        bound(1, 8, "NNN>N:caseN v0 zero call0 v3 v1 v2");
        // Two self-calls at M = 1: 1 + 2, and 1 + 2 + 4 + 8 with two parameters.
        bound(1, 3, "N>L:caseN v0 nil caseL call0 v1 nil call0 v1");
        bound(1, 15, "NN>L:caseN v0 nil caseL call0 v2 v1 nil call0 v2 v1");
        bound(2, 7, "N>L:caseN v0 nil caseL call0 v1 nil call0 v1");
        // One caller of one callee: 1 + 7; two calls: 1 + 14; itself recursive: 7 * (1 + 7).
        bound(6, 8, "N>N:" + Programs.HALF, "N>N:call0 v0");
        bound(6, 15, "N>N:" + Programs.HALF, "N>N:call0 call0 v0");
        bound(6, 56, "N>N:" + Programs.HALF, "N>N:caseN v0 call0 v0 call1 v1");
        bound(6, 57, "N>N:" + Programs.HALF, "N>N:caseN v0 call0 v0 call1 v1", "N>N:v0", "N>N:call1 v0");
        // Two callees, the earlier one also by way of the later one: 1 + 7 + 2 * (1 + 7).
        bound(6, 24, "N>N:" + Programs.HALF, "N>N:call0 v0", "N>N:call1 call0 call1 v0");
    }

    /** A body of r self-calls side by side: N is 1 + r + .. + r^(L-1), by exact integers. */
    private static void selfCallsAgainstExactNumbers() {
        for (int cap = 1; cap <= 12; cap++) {
            for (int params = 1; params <= 3; params++) {
                for (int r = 0; r <= 8; r++) {
                    String call = "call0 v" + params + " v1 v2".substring(0, 3 * (params - 1));
                    String body = "caseN v0 nil " + ("caseL " + call + " nil ").repeat(r) + "nil";
                    bound(cap, exactSum(r, cap, params), "NNN".substring(0, params) + ">L:" + body);
                }
            }
        }
        // 10^0 + .. + 10^12 and 10^0 + .. + 10^11: on either side of the cap.
        String ten = "caseN v0 nil " + "caseL call0 v1 nil ".repeat(9) + "call0 v1";
        bound(12, CAP, "N>L:" + ten);
        bound(11, 111111111111L, "N>L:" + ten);
    }

    /** (3^25 - 1) / 2 called twice: over half of the cap, and not cut. */
    private static void justBelowTheCap() {
        String three = "NN>L:caseN v0 nil caseL call0 v2 v1 nil caseL call0 v2 v1 nil call0 v2 v1";
        bound(4, 423644304721L, three);
        bound(4, 847288609443L, three, "N>L:caseL call0 v0 v0 nil call0 v0 v0");
        bound(4, CAP, three, "N>L:caseL call0 v0 v0 nil caseL call0 v0 v0 nil call0 v0 v0");
    }

    /**
     * "Bound = min(T_MAIN, BOUND_CAP)". At M = 11 ten self-calls make N = 111111111111, so nine
     * such calls and MAIN itself are the cap, and nine times N is one less.
     */
    private static void onEitherSideOfTheCap() {
        bound(11, 111111111111L, "N>N:" + tenSelfCalls(0, "zero"));
        bound(11, CAP - 1, "N>N:v0", "N>N:" + tenSelfCalls(1, "call0 ".repeat(8) + "v0"));
        bound(11, CAP, "N>N:" + tenSelfCalls(0, "zero"), "N>N:" + "call0 ".repeat(9) + "v0");
        bound(11, CAP, "N>N:v0", "N>N:" + tenSelfCalls(1, "zero"),
            "N>N:call0 " + "call1 ".repeat(9) + "v0");
        bound(11, CAP, "N>N:v0", "N>N:" + tenSelfCalls(1, "call0 ".repeat(9) + "v0"));
        // Cut down below MAIN, and counted on from there.
        bound(11, CAP, "N>N:v0", "N>N:" + tenSelfCalls(1, "call0 ".repeat(8) + "v0"), "N>N:call1 v0");
        bound(11, CAP - 1, "N>N:v0", "NNN>N:caseN v0 zero call1 v3 v1 call1 v3 v1 v2",
            "N>N:" + tenSelfCalls(2, "call0 ".repeat(8) + "v0"));
    }

    /** Five CASEs have eleven ends: ten self-calls and one of the caller's own. */
    private static String tenSelfCalls(int f, String last) {
        String call = "call" + f + " v1 ";
        return "caseN v0 zero " + ("caseN " + call + call).repeat(5) + last;
    }

    /** "no intermediate value wraps around, however large T_f becomes" */
    private static void whereIntsAndLongsWrap() {
        // r self-calls at two and three parameters, called c times by MAIN: T = 1 + c * N.
        for (int cap = 1; cap <= 12; cap++) {
            for (int r = 1; r <= 16; r++) {
                for (int c = 0; c <= 4; c++) {
                    String two = "NN>N:caseN v0 zero " + "call0 v2 ".repeat(r) + "v1";
                    bound(cap, onceMore(exact(r, cap, 2), c), two, "N>N:" + "call0 v0 ".repeat(c) + "v0");
                }
                String three = "NNN>N:caseN v0 zero " + "call0 v3 v1 ".repeat(r) + "v2";
                bound(cap, onceMore(exact(r, cap, 3), 1), three, "N>N:call0 v0 v0 v0");
            }
        }
        // 2^36 - 1, 2^36 and 2^36 + 1: more than an int, and nothing in its low half.
        String two = "NN>N:caseN v0 zero call0 v2 call0 v2 v1";
        bound(5, (1L << 36) - 1, two);
        bound(5, 1L << 36, two, "N>N:call0 v0 v0");
        bound(5, (1L << 36) + 1, two, "N>N:call0 v0 v0", "N>N:call1 v0");
        // 2^64 - 1 and 2^64: they would be -1 and 0 in a long.
        bound(7, CAP, two);
        bound(7, CAP, two, "N>N:call0 v0 v0");
        bound(3, CAP, "NNN>N:caseN v0 zero call0 v3 v1 call0 v3 v1 v2");
    }

    private static long onceMore(BigInteger called, int times) {
        return cut(called.multiply(BigInteger.valueOf(times)).add(BigInteger.ONE));
    }

    private static long cut(BigInteger exact) {
        return exact.min(BigInteger.valueOf(CAP)).longValueExact();
    }

    /** "r^0 = 1, so N_f = 1 when r_f = 0"; "The bound is always at least 1." */
    private static void withoutSelfCalls() {
        for (int cap = 1; cap <= 12; cap++) {
            for (int params = 1; params <= 3; params++) {
                String signature = "NNN".substring(0, params) + ">N:";
                bound(cap, 1, signature + "v0");
                bound(cap, 1, "N>N:v0", signature + "zero");
                bound(cap, 2, "N>N:v0", signature + "call0 zero");
                bound(cap, 12, "N>N:v0", signature + "call0 ".repeat(11) + "zero");
            }
        }
    }

    /** "(BOUND below if CODE_OK, else 0)" */
    private static void noBoundWithoutOk() {
        String[] bodies = {"", "succ", "v1", "call1", "nil", Programs.LOOP};
        for (String body : bodies) {
            SizedTermination x = Programs.one("N>N", "v0");
            x.compile();
            Due.same("bound of v0", x.getBound(), 1);
            x = Programs.one("N>N", body);
            x.compile();
            Due.same("bound of '" + body + "'", x.getBound(), 0);
            x.clearProgram();
            Due.same("compile", x.compile(), SizedTermination.CODE_EMPTY);
            Due.same("bound of nothing", x.getBound(), 0);
        }
    }

    private static long exactSum(int r, int cap, int params) {
        return cut(exact(r, cap, params));
    }

    private static BigInteger exact(int r, int cap, int params) {
        int terms = 1;
        for (int i = 0; i < params; i++) {
            terms *= cap + 1;
        }
        BigInteger sum = BigInteger.ZERO;
        for (int i = 0; i < terms; i++) {
            sum = sum.multiply(BigInteger.valueOf(r)).add(BigInteger.ONE);
        }
        return sum;
    }

    private static void chains() {
        SizedTermination x = new SizedTermination(12);
        Programs.declare(x, "NNN>N", "caseN v0 zero call0 v3 v1 v2");
        long want = 2197;
        for (int f = 1; f < 6; f++) {
            String down = "call" + (f - 1) + " v0 v1 v2";
            Programs.declare(x, "NNN>N", "caseN v0 " + down + " call" + f + " v3 v1 v2");
            x.compile();
            want = Math.min(CAP, 2197 * (1 + want));
            Due.same("chain of " + f, x.getBound(), want);
        }
        // 2^2197 and its powers: no product of them may wrap around.
        x = new SizedTermination(12);
        Programs.declare(x, "NNN>L", "caseN v0 nil caseL call0 v3 v1 v2 nil call0 v3 v1 v2");
        for (int f = 1; f < 4; f++) {
            String down = "call" + (f - 1) + " v0 v1 v2";
            Programs.declare(x, "NNN>L", "caseL " + down + " nil caseN v0 nil call" + f + " v5 v1 v2");
            Due.same("compile", x.compile(), SizedTermination.CODE_OK);
            Due.same("capped at " + f, x.getBound(), CAP);
        }
        // Many calls of one capped function.
        x = new SizedTermination(12);
        Programs.declare(x, "N>L", "caseN v0 nil " + "caseL call0 v1 nil ".repeat(9) + "call0 v1");
        Programs.declare(x, "N>L", "caseL call0 v0 nil ".repeat(5) + "nil");
        Due.same("compile", x.compile(), SizedTermination.CODE_OK);
        Due.same("five of them", x.getBound(), CAP);
    }

    private static void unreachedFunctionsDoNotCount() {
        String huge = "NNN>L:caseN v0 nil caseL call0 v3 v1 v2 nil call0 v3 v1 v2";
        bound(12, 1, huge, "N>N:v0");
        bound(12, CAP, huge, "N>L:call0 v0 v0 v0");
        bound(12, 2, huge, "N>N:v0", "N>N:call1 v0");
        bound(12, 14, huge, "N>N:caseN v0 zero call1 v1", "N>N:call1 v0");
        bound(12, CAP, huge, "N>L:caseN zero nil call0 v0 v0 v0", "N>N:v0", "N>L:call1 v0");
    }
}
