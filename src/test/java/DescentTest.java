/** Promise 5, the fourth phase. */
public final class DescentTest {
    private static final int OK = SizedTermination.CODE_OK;
    private static final int DESCENT = SizedTermination.CODE_DESCENT;

    public static void main(String[] args) {
        oneParameter();
        facts();
        upAndDown();
        lexicographic();
        everySelfCall();
        onlySelfCalls();
        Due.end();
    }

    private static void descent(String signature, String body, int want) {
        SizedTermination x = Programs.one(signature, body);
        Due.same(signature + " '" + body + "'", x.compile(), want);
        Due.same("fault of '" + body + "'", x.getFaultFunction(), want == OK ? -1 : 0);
        Due.same("bound of '" + body + "'", x.getBound() == 0, want != OK);
        boolean allNaturals = signature.indexOf('L') == -1 || signature.indexOf('L') > signature.indexOf('>');
        Due.same("start of '" + body + "'", x.start(1), allNaturals);
    }

    private static void oneParameter() {
        descent("N>N", "v0", OK);
        descent("N>N", "call0 v0", DESCENT);
        descent("N>N", "call0 zero", DESCENT);
        descent("N>N", "caseN v0 zero call0 v1", OK);
        descent("N>N", "caseN v0 zero call0 v0", DESCENT);
        descent("N>N", "caseN v0 call0 v0 v1", DESCENT);
        descent("L>N", "caseL v0 zero call0 v2", OK);
        descent("L>N", "caseL v0 zero call0 v0", DESCENT);
        descent("L>N", "caseL v0 zero succ call0 v2", OK);
        descent("L>N", "caseL v0 zero call0 nil", DESCENT);
        descent("N>N", Programs.HALF, OK);
    }

    /** "Every node has a size fact, NONE or (j,k)" */
    private static void facts() {
        // Up one and down one is even; down two and up one still goes down.
        descent("N>N", "caseN v0 zero call0 succ v1", DESCENT);
        descent("N>N", "caseN v0 zero caseN v1 zero call0 succ v2", OK);
        descent("N>N", "caseN v0 zero caseN v1 zero call0 succ succ v2", DESCENT);
        descent("N>N", "caseN succ v0 zero call0 v1", DESCENT);
        descent("N>N", "caseN succ v0 zero caseN v1 zero call0 v2", OK);
        descent("N>N", "caseN succ succ v0 zero caseN v1 zero call0 v2", DESCENT);
        descent("L>L", "caseL v0 nil call0 cons v1 v2", DESCENT);
        descent("L>L", "caseL v0 nil caseL v2 nil call0 cons v3 v4", OK);
        descent("L>L", "caseL v0 nil caseL v2 nil call0 cons v1 cons v3 v4", DESCENT);
        descent("L>L", "caseL cons zero v0 nil call0 v2", DESCENT);
        descent("L>L", "caseL cons zero v0 nil caseL v2 nil call0 v4", OK);
        // The fact of a CONS is its tail's, however large its head is written.
        descent("L>L", "caseL v0 nil caseL v2 nil call0 cons caseN v1 zero v5 v4", OK);
        descent("L>L", "caseL v0 nil caseL v2 nil call0 cons succ v3 v4", OK);
        // Heads, constants, calls and CASEs have no fact, nor has what comes of matching them.
        descent("NL>N", "caseL v1 zero call0 v2 v3", DESCENT);
        descent("NL>N", "caseL v1 zero caseN v2 zero call0 v4 v3", DESCENT);
        descent("N>N", "caseN zero zero call0 v1", DESCENT);
        descent("N>N", "caseN succ zero zero caseN v1 zero call0 v2", DESCENT);
        descent("L>N", "caseL nil zero call0 v2", DESCENT);
        descent("L>N", "caseL cons zero nil zero caseL v2 zero call0 v4", DESCENT);
        descent("N>N", "caseN v0 zero call0 call0 v1", DESCENT);
        descent("N>N", "caseN v0 zero call0 caseN v1 v1 v2", DESCENT);
        descent("N>N", "caseN v0 zero caseN call0 v1 zero call0 v2", DESCENT);
        descent("N>N", "caseN caseN v0 zero v1 zero call0 v1", DESCENT);
        // A level used by a CASE in child0 or child1 is the outer CASE's again in child2.
        descent("NN>N", "caseN v0 caseN v1 v1 v2 call0 v2 v1", OK);
        descent("NN>N", "caseN caseN v0 zero v2 zero call0 v2 v1", DESCENT);
        descent("NL>N", "caseN v0 caseL v1 zero v2 call0 v2 v1", OK);
        descent("LN>L", "caseL v0 caseN v1 nil nil call0 v3 v1", OK);
        descent("NN>N", "caseN v0 zero caseN v2 caseN v1 v1 v3 call0 v3 v1", OK);
        descent("NN>N", "caseN v0 zero caseN v2 caseN v1 v1 call0 v3 v3 call0 v3 v1", DESCENT);
        descent("NN>N", "caseN v0 zero caseN v1 zero call0 v0 v3", OK);
        descent("NN>N", "caseN v0 zero caseN v1 zero call0 v3 v2", DESCENT);
    }

    /** "k may be zero or negative": so many times up and so many down, on either side of even. */
    private static void upAndDown() {
        for (int up = 0; up <= 10; up++) {
            for (int down = 0; down <= 10; down++) {
                int want = down - up >= 1 ? OK : DESCENT;
                descent("N>N", down("caseN", 0, down, 1) + "call0" + " succ".repeat(up) + " v" + down, want);
                descent("L>N", down("caseL", 0, down, 2) + "call0" + " cons zero".repeat(up) + " v" + 2 * down,
                    want);
                // The rise may as well stand in the child0 of a CASE, which goes one down again.
                String rise = "caseN" + " succ".repeat(up) + " v0 zero ";
                descent("N>N", rise + down("caseN", 1, down, 1) + "call0 v" + (down + 1),
                    down + 1 - up >= 1 ? OK : DESCENT);
            }
        }
        // Equal is enough before the one that goes down; one more is too much.
        descent("NN>N", "caseN v0 zero caseN v1 zero call0 succ v2 v3", OK);
        descent("NN>N", "caseN v0 zero caseN v1 zero call0 succ succ v2 v3", DESCENT);
    }

    /** Matches a level, then what is left of it, and so on, so many times. */
    private static String down(String kind, int from, int times, int opened) {
        StringBuilder body = new StringBuilder();
        for (int i = 0; i < times; i++) {
            body.append(kind).append(" v").append(from + opened * i).append(" zero ");
        }
        return body.toString();
    }

    /** "some i has: a_i has (i,k) with k >= 1, and each a_t, t < i, has (t,k') with k' >= 0" */
    private static void lexicographic() {
        descent("NN>N", "caseN v1 zero call0 v0 v2", OK);
        descent("NN>N", "caseN v1 zero call0 v2 v0", DESCENT);
        descent("NN>N", "caseN v0 zero call0 v2 succ succ v1", OK);
        descent("NN>N", "caseN v0 zero call0 v2 zero", OK);
        descent("NN>N", "caseN v1 zero call0 succ v0 v2", DESCENT);
        descent("NN>N", "caseN v1 zero call0 zero v2", DESCENT);
        descent("NN>N", "caseN v1 zero call0 v1 v2", DESCENT);
        descent("NN>N", "caseN v0 zero caseN v1 zero call0 succ v2 v3", OK);
        descent("NN>N", "call0 v0 v1", DESCENT);
        descent("NN>N", "call0 v1 v0", DESCENT);
        descent("NNN>N", "caseN v2 zero call0 v0 v1 v3", OK);
        descent("NNN>N", "caseN v2 zero call0 v0 succ v1 v3", DESCENT);
        descent("NNN>N", "caseN v2 zero call0 v0 v0 v3", DESCENT);
        descent("NNN>N", "caseN v1 zero call0 v0 v3 succ v2", OK);
        descent("NNN>N", "caseN v1 zero call0 v0 v3 call0 v0 v3 v2", OK);
        descent("NNN>N", "caseN v0 zero call0 v3 v2 v1", OK);
        descent("NNN>N", "call0 v0 v1 v2", DESCENT);
        // A later descent does not make up for an earlier ascent, nor for another parameter.
        descent("NNN>N", "caseN v2 zero call0 succ v0 v1 v3", DESCENT);
        descent("NNN>N", "caseN v2 zero call0 v1 v1 v3", DESCENT);
        descent("LN>L", "caseN v1 v0 call0 v0 v2", OK);
        descent("LN>L", "caseN v1 v0 call0 cons v1 v0 v2", DESCENT);
        // Ackermann.
        descent("NN>N",
            "caseN v0 succ v1 caseN v1 call0 v2 succ zero call0 v2 call0 v0 v3", OK);
    }

    /** "the first self-call .. in prefix order that does not descend" */
    private static void everySelfCall() {
        descent("N>N", "caseN v0 zero call0 call0 v0", DESCENT);
        descent("NN>N", "caseN v0 zero call0 v2 call0 v2 v1", OK);
        descent("NN>N", "caseN v0 zero call0 v2 call0 v0 v1", DESCENT);
        descent("N>L", "caseN v0 nil cons zero call0 v1", OK);
        // One that is never reached counts as well.
        descent("N>N", "caseN zero zero call0 v0", DESCENT);
    }

    /** "(K_CALL f in the body of f)": a call of an earlier function need not descend. */
    private static void onlySelfCalls() {
        SizedTermination x = Programs.one("N>N", "v0");
        Programs.declare(x, "N>N", "call0 v0");
        Due.same("earlier functions are free", x.compile(), OK);
        Programs.declare(x, "N>N", "caseN v0 call1 v0 call2 call0 v0");
        Due.same("own ones are not", x.compile(), DESCENT);
        Due.same("its function", x.getFaultFunction(), 2);
        Programs.declare(x, "N>N", "call3 v0");
        x.compile();
        Due.same("first of two", x.getFaultFunction(), 2);
        // Facts speak of the current function's own parameters, not of the one before it.
        x = Programs.one("NNN>N", "caseN v2 zero call0 v0 v1 v3");
        Programs.declare(x, "N>N", "caseN v0 zero call1 v1");
        Due.same("each by itself", x.compile(), OK);
        x = Programs.one("N>N", "caseN v0 zero v1");
        Programs.declare(x, "NN>N", "call1 v0 v1");
        Due.same("a level that was smaller before", x.compile(), DESCENT);
        Due.same("its function", x.getFaultFunction(), 1);
    }
}
