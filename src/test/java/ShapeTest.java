/** Promise 5, the first phase, and what compile() does besides checking. */
public final class ShapeTest {
    private static final int OK = SizedTermination.CODE_OK;
    private static final int SYNTAX = SizedTermination.CODE_SYNTAX;

    public static void main(String[] args) {
        empty();
        shapes();
        largestBodies();
        callArity();
        arityOfNoFunction();
        laterFunctionFaults();
        endsARun();
        Due.end();
    }

    /** "F == 0 gives CODE_EMPTY"; "the fault function (.. -1 for CODE_OK and CODE_EMPTY)" */
    private static void empty() {
        SizedTermination x = new SizedTermination(6);
        Due.same("compile of nothing", x.compile(), SizedTermination.CODE_EMPTY);
        Due.same("state", Programs.all(x), Programs.RESET.replace("code 0", "code 7"));
        Due.same("start", x.start(3), false);
    }

    /** "if need == 0, fault"; "also a fault if the body is empty or need != 0 at the end" */
    private static void shapes() {
        shape("", SYNTAX);
        shape("zero", OK);
        shape("v0", OK);
        shape("zero zero", SYNTAX);
        shape("succ", SYNTAX);
        shape("succ zero", OK);
        shape("succ zero zero", SYNTAX);
        shape("zero succ", SYNTAX);
        shape("nil nil", SYNTAX);
        shape("cons zero", SYNTAX);
        shape("cons", SYNTAX);
        shape("cons zero nil zero", SYNTAX);
        shape("caseN v0 zero", SYNTAX);
        shape("caseN v0", SYNTAX);
        shape("caseN v0 zero v1", OK);
        shape("caseN v0 zero v1 v1", SYNTAX);
        shape("caseL nil zero v1", OK);
        shape("caseL nil zero", SYNTAX);
        shape("caseL nil zero v1 zero", SYNTAX);
        shape("caseN succ v0 succ zero succ v1", OK);
        // The need falls to 0 in the middle and would end at 0 if the middle were not looked at.
        shape("zero caseN zero zero", SYNTAX);
    }

    /** Bodies that fill the program to its last node. */
    private static void largestBodies() {
        shape("caseN ".repeat(64), SYNTAX);
        shape("caseN ".repeat(21) + "zero ".repeat(43), OK);
        shape("caseN ".repeat(21) + "zero ".repeat(42), SYNTAX);
        shape("caseN ".repeat(20) + "zero ".repeat(42), SYNTAX);
        shape("caseN ".repeat(22) + "zero ".repeat(42), SYNTAX);
        shape("caseN zero zero ".repeat(21) + "zero", OK);
        shape("succ ".repeat(63) + "zero", OK);
        shape("succ ".repeat(64), SYNTAX);
        shape("succ ".repeat(62) + "zero zero", SYNTAX);
        shape("zero ".repeat(64), SYNTAX);
        shape("caseL nil zero " + "caseL nil zero ".repeat(20) + "zero", OK);
        SizedTermination x = Programs.one("N>L", "cons zero ".repeat(31) + "nil");
        Due.same("63 nodes", x.compile(), OK);
        Programs.append(x, "nil");
        Due.same("64 nodes", x.compile(), SYNTAX);
    }

    private static void shape(String body, int want) {
        SizedTermination x = Programs.one("N>N", body);
        Due.same("'" + body + "'", x.compile(), want);
        Due.same("fault of '" + body + "'", x.getFaultFunction(), want == OK ? -1 : 0);
        Due.same("bound of '" + body + "'", x.getBound(), want == OK ? 1 : 0);
    }

    private static void callArity() {
        for (int count = 1; count <= 3; count++) {
            for (int given = 0; given <= 4; given++) {
                SizedTermination x = new SizedTermination(6);
                Programs.declare(x, "NNN".substring(0, count) + ">N", "v0");
                Programs.declare(x, "N>N", "call0" + " v0".repeat(given));
                Due.same(given + " for " + count, x.compile(), given == count ? OK : SYNTAX);
                Due.same("fault", x.getFaultFunction(), given == count ? -1 : 1);
            }
        }
    }

    /** "The arity is 0 when g is not in 0..F-1." A later function's is as many as that one takes. */
    private static void arityOfNoFunction() {
        shape("call-1 zero", SYNTAX);
        shape("call1 zero", SYNTAX);
        shape("call1", SizedTermination.CODE_CALL);
        SizedTermination x = Programs.one("N>N", "call1 zero v0");
        Programs.declare(x, "NN>N", "v0");
        Due.same("a later function's arity", x.compile(), SizedTermination.CODE_CALL);
        x = Programs.one("N>N", "call1 zero");
        Due.same("unknown yet", x.compile(), SYNTAX);
        Programs.declare(x, "N>N", "v0");
        Due.same("known now", x.compile(), SizedTermination.CODE_CALL);
        int[] none = {Integer.MIN_VALUE, -256, -1, 1, 5, 6, 7, 64, 256, Integer.MAX_VALUE};
        for (int g : none) {
            shape("call" + g, SizedTermination.CODE_CALL);
            shape("call" + g + " v0", SYNTAX);
            shape("succ call" + g, SizedTermination.CODE_CALL);
        }
        // With F = 6: 5 is the last function, 6 is none.
        x = new SizedTermination(6);
        for (int f = 0; f < 5; f++) {
            Programs.declare(x, "N>N", f == 0 ? "call5 zero zero zero" : "v0");
        }
        Programs.declare(x, "NNN>N", "v0");
        Due.same("of the last", x.compile(), SizedTermination.CODE_CALL);
        Due.same("its function", x.getFaultFunction(), 0);
        x.clearProgram();
        for (int f = 0; f < 6; f++) {
            Programs.declare(x, "NNN>N", f == 5 ? "call6" : "v0");
        }
        Due.same("of none", x.compile(), SizedTermination.CODE_CALL);
        Due.same("its function", x.getFaultFunction(), 5);
    }

    /** "each phase looks at functions 0..F-1 in order; the first fault found ends checking" */
    private static void laterFunctionFaults() {
        SizedTermination x = Programs.one("N>N", "v0");
        Programs.declare(x, "N>N", "succ");
        Programs.declare(x, "N>N", "v0");
        Programs.declare(x, "N>N", "");
        Due.same("first of two faults", x.compile(), SYNTAX);
        Due.same("its function", x.getFaultFunction(), 1);
        // A node short in one body is not made up by the next body's nodes.
        x.clearProgram();
        Programs.declare(x, "N>N", "v0");
        Programs.declare(x, "N>N", "");
        Programs.declare(x, "N>N", "v0");
        Due.same("an empty body in the middle", x.compile(), SYNTAX);
        Due.same("its function", x.getFaultFunction(), 1);
        x.clearProgram();
        Programs.declare(x, "N>N", "succ");
        Programs.declare(x, "N>N", "zero v0");
        Due.same("one short, then one over", x.compile(), SYNTAX);
        Due.same("its function", x.getFaultFunction(), 0);
        for (int faulty = 0; faulty < 6; faulty++) {
            x.clearProgram();
            for (int f = 0; f < 6; f++) {
                Programs.declare(x, "N>N", f < faulty ? "v0" : "");
            }
            Due.same("empty from " + faulty, x.compile(), SYNTAX);
            Due.same("its function", x.getFaultFunction(), faulty);
        }
    }

    /** "it sets status ST_IDLE, calls 0, depth 0 and no result, ending any run" */
    private static void endsARun() {
        SizedTermination x = Programs.one("N>N", Programs.HALF);
        Programs.putNat(x, 0, 6);
        x.compile();
        x.start(0);
        x.run(2);
        Due.same("compile in a run", x.compile(), OK);
        Due.same("run ended", Programs.all(x),
            "code 1 fault -1 bound 7 status 0 calls 0 depth 0 result -1 -1");
        Due.same("no run", x.run(5), SizedTermination.ST_IDLE);
        Due.same("again", Programs.outcome(x, 1), "status 2 calls 4 depth 0 result 3");
        x.compile();
        Due.same("result gone", Programs.all(x),
            "code 1 fault -1 bound 7 status 0 calls 0 depth 0 result -1 -1");
        Due.same("inputs stay", Programs.outcome(x, 1), "status 2 calls 4 depth 0 result 3");
        x = Programs.one("N>N", Programs.LOOP);
        Due.same("descent", x.compile(), SizedTermination.CODE_DESCENT);
        Due.same("start", x.start(9), true);
        x.run(2);
        x.compile();
        Due.same("ended", Programs.all(x),
            "code 6 fault 0 bound 0 status 0 calls 0 depth 0 result -1 -1");
    }
}
