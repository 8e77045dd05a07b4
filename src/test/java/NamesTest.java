/** Promise 5, the second phase: scope and call targets. */
public final class NamesTest {
    private static final int OK = SizedTermination.CODE_OK;
    private static final int SCOPE = SizedTermination.CODE_SCOPE;
    private static final int CALL = SizedTermination.CODE_CALL;

    public static void main(String[] args) {
        scopes();
        targets();
        firstInPrefixOrder();
        phaseOrder();
        deepestScope();
        Due.end();
    }

    private static void names(String signature, String body, int want) {
        SizedTermination x = Programs.one(signature, body);
        Due.same(signature + " '" + body + "'", x.compile(), want);
        Due.same("fault of '" + body + "'", x.getFaultFunction(), want == OK ? -1 : 0);
        Due.same("bound of '" + body + "'", x.getBound() == 0, want != OK);
    }

    /** "K_VAR with x outside 0..s-1 gives CODE_SCOPE" */
    private static void scopes() {
        names("N>N", "v0", OK);
        names("N>N", "v1", SCOPE);
        names("N>N", "v-1", SCOPE);
        names("NN>N", "v1", OK);
        names("NN>N", "v2", SCOPE);
        names("NNN>N", "v2", OK);
        names("NNN>N", "v3", SCOPE);
        names("N>N", "v" + Integer.MAX_VALUE, SCOPE);
        names("N>N", "v" + Integer.MIN_VALUE, SCOPE);
        // A CASE opens its levels in child2 alone.
        names("N>N", "caseN v1 zero v0", SCOPE);
        names("N>N", "caseN v0 v1 v0", SCOPE);
        names("N>N", "caseN v0 v0 v1", OK);
        names("N>N", "caseN v0 v0 v2", SCOPE);
        names("L>N", "caseL v1 zero zero", SCOPE);
        names("L>N", "caseL v0 v1 v1", SCOPE);
        names("L>N", "caseL v0 zero v1", OK);
        names("L>L", "caseL v0 nil v2", OK);
        names("L>L", "caseL v0 nil v3", SCOPE);
        // Nested ones add up, and what an inner one opened is closed behind it.
        names("N>N", "caseN v0 zero caseN v1 zero v2", OK);
        names("N>N", "caseN v0 zero caseN v1 v2 zero", SCOPE);
        names("NL>N", "caseL v1 zero caseN v2 v3 v4", SizedTermination.CODE_TYPE);
        names("NL>N", "caseL v1 zero caseN v2 v2 v4", OK);
        names("NL>N", "caseL v1 zero caseN v2 v2 v5", SCOPE);
        names("N>N", "caseN caseN v0 zero v1 zero v1", OK);
        names("N>N", "caseN caseN v0 zero v1 v1 zero", SCOPE);
        names("N>N", "caseN caseN v0 zero v1 zero v2", SCOPE);
        names("N>L", "cons caseN v0 zero v1 cons v1 nil", SCOPE);
        names("N>L", "cons caseN v0 zero v1 cons v0 nil", OK);
        names("NNN>N", "call0 v0 v1 v3", SCOPE);
        names("NNN>N", "caseN v0 v1 call0 v3 v1 v2", OK);
    }

    /** "K_CALL with g outside 0..f, f being its own function, gives CODE_CALL" */
    private static void targets() {
        names("N>N", "call-1", CALL);
        names("N>N", "call1", CALL);
        for (int f = 0; f < 6; f++) {
            for (int g = -1; g <= 6; g++) {
                target(f, g);
            }
        }
        for (int g = 0; g < 4; g++) {
            SizedTermination x = new SizedTermination(6);
            Programs.declare(x, "N>N", "v0");
            Programs.declare(x, "N>N", "v0");
            Programs.declare(x, "N>N", "caseN v0 v0 call" + g + " v1");
            Programs.declare(x, "N>N", "v0");
            Due.same("call of " + g + " in 2", x.compile(), g <= 2 ? OK : CALL);
            Due.same("fault", x.getFaultFunction(), g <= 2 ? -1 : 2);
        }
    }

    /** A call of g in function f of six. */
    private static void target(int f, int g) {
        SizedTermination x = new SizedTermination(6);
        String call = g >= 0 && g < 6 ? "call" + g + " v1" : "call" + g;
        for (int i = 0; i < 6; i++) {
            Programs.declare(x, "N>N", i == f ? "caseN v0 zero " + call : "v0");
        }
        boolean good = g >= 0 && g <= f;
        Due.same("call of " + g + " in " + f, x.compile(), good ? OK : CALL);
        Due.same("its function", x.getFaultFunction(), good ? -1 : f);
    }

    /** "The first node in prefix order" */
    private static void firstInPrefixOrder() {
        names("N>L", "cons v9 call9", SCOPE);
        names("N>L", "cons call9 v9", CALL);
        names("N>N", "caseN zero call9 v9", CALL);
        SizedTermination x = Programs.one("N>N", "call1 v7");
        Programs.declare(x, "N>N", "v0");
        Due.same("the call stands before its child", x.compile(), CALL);
        x = Programs.one("N>N", "v0");
        Programs.declare(x, "N>N", "v1");
        Programs.declare(x, "N>N", "call5");
        Due.same("lower function first", x.compile(), SCOPE);
        Due.same("its index", x.getFaultFunction(), 1);
    }

    /** "four phases run in order; each phase looks at functions 0..F-1 in order" */
    private static void phaseOrder() {
        // Each phase looks at all functions before the next phase looks at any.
        String[] bodies = {Programs.LOOP, "nil", "v9", "succ"};
        int[] codes = {SizedTermination.CODE_DESCENT, SizedTermination.CODE_TYPE, SCOPE,
            SizedTermination.CODE_SYNTAX};
        SizedTermination x = new SizedTermination(6);
        for (int f = 0; f < bodies.length; f++) {
            Programs.declare(x, "N>N", bodies[f]);
            Due.same("with '" + bodies[f] + "'", x.compile(), codes[f]);
            Due.same("its function", x.getFaultFunction(), f);
            Due.same("no bound", x.getBound(), 0);
        }
    }

    /** Twenty-one CASE_LISTs, each in the child2 of the one before: no program opens more levels. */
    private static void deepestScope() {
        StringBuilder body = new StringBuilder("caseL v2 zero");
        for (int i = 1; i < 21; i++) {
            body.append(" caseL v").append(2 * i + 2).append(" zero");
        }
        names("NNL>N", body + " v43", OK);
        names("NNL>L", body.toString().replace("zero", "nil") + " v44", OK);
        names("NNL>N", body + " v45", SCOPE);
        SizedTermination x = new SizedTermination(12);
        Programs.declare(x, "NNL>L", body.toString().replace("zero", "nil") + " v44");
        x.compile();
        Programs.putList(x, 2, 1, 2, 3, 4, 5, 6, 7, 8, 9, 10, 11, 12);
        Due.same("runs out of list", Programs.outcome(x, 1), "status 2 calls 1 depth 0 result []");
        StringBuilder again = new StringBuilder("caseL v2 nil");
        for (int i = 1; i < 21; i++) {
            again.append(" caseL v2 nil");
        }
        x.clearProgram();
        Programs.declare(x, "NNL>L", again + " v44");
        x.compile();
        Due.same("last tail", Programs.outcome(x, 1),
            "status 2 calls 1 depth 0 result [2 3 4 5 6 7 8 9 10 11 12]");
        x.clearProgram();
        Programs.declare(x, "NNL>N", again.toString().replace("nil", "zero") + " v43");
        x.compile();
        Due.same("last head", Programs.outcome(x, 1), "status 2 calls 1 depth 0 result 1");
    }
}
