/** Promise 5, the third phase. */
public final class TypeTest {
    private static final int OK = SizedTermination.CODE_OK;
    private static final int TYPE = SizedTermination.CODE_TYPE;

    public static void main(String[] args) {
        roots();
        children();
        caseVariables();
        callTypes();
        laterFunction();
        namesBeforeTypes();
        Due.end();
    }

    private static void types(String signature, String body, int want) {
        SizedTermination x = Programs.one(signature, body);
        Due.same(signature + " '" + body + "'", x.compile(), want);
        Due.same("fault of '" + body + "'", x.getFaultFunction(), want == OK ? -1 : 0);
    }

    /** "Expected: for the root, the result type of f" */
    private static void roots() {
        types("N>N", "v0", OK);
        types("N>L", "v0", TYPE);
        types("L>N", "v0", TYPE);
        types("L>L", "v0", OK);
        types("NL>L", "v1", OK);
        types("LN>L", "v1", TYPE);
        types("LNL>L", "v2", OK);
        types("N>N", "zero", OK);
        types("N>L", "zero", TYPE);
        types("N>N", "succ zero", OK);
        types("N>L", "succ zero", TYPE);
        types("N>L", "nil", OK);
        types("N>N", "nil", TYPE);
        types("N>L", "cons zero nil", OK);
        types("N>N", "cons zero nil", TYPE);
    }

    /** "for the child of SUCC, NAT; for the children of CONS, NAT then LIST; .. of a CASE" */
    private static void children() {
        types("N>N", "succ nil", TYPE);
        types("L>N", "succ v0", TYPE);
        types("N>L", "cons nil nil", TYPE);
        types("N>L", "cons zero zero", TYPE);
        types("N>L", "cons zero cons zero v0", TYPE);
        types("L>L", "cons zero cons zero v0", OK);
        types("N>N", "caseN nil zero zero", TYPE);
        types("N>N", "caseL zero zero zero", TYPE);
        types("N>L", "caseN v0 nil zero", TYPE);
        types("N>L", "caseN v0 zero nil", TYPE);
        types("N>L", "caseN v0 nil nil", OK);
        types("L>L", "caseL v0 nil zero", TYPE);
        types("L>L", "caseL v0 zero nil", TYPE);
        types("L>N", "caseL v0 zero zero", OK);
        // A CASE takes on the type that is expected of it, wherever it stands.
        types("N>L", "cons caseN v0 zero nil nil", TYPE);
        types("N>L", "cons caseN v0 zero v1 caseN v0 nil nil", OK);
        types("L>N", "caseN caseL v0 zero v1 zero v1", OK);
        types("L>N", "caseN caseL v0 zero v2 zero v1", TYPE);
        types("L>N", "caseL caseL v0 nil v2 zero v1", OK);
        types("L>N", "caseL caseL v0 nil v1 zero v1", TYPE);
        types("L>N", "caseL v0 zero caseL v2 v1 caseL v4 v3 v5", OK);
    }

    /** "a CASE_NAT variable NAT; a CASE_LIST head NAT, tail LIST" */
    private static void caseVariables() {
        types("N>N", "caseN v0 zero v1", OK);
        types("N>L", "caseN v0 nil v1", TYPE);
        types("L>N", "caseL v0 zero v1", OK);
        types("L>N", "caseL v0 zero v2", TYPE);
        types("L>L", "caseL v0 nil v1", TYPE);
        types("L>L", "caseL v0 nil v2", OK);
        // Levels that a CASE in child0 or child1 used have the outer CASE's types in child2.
        types("NL>L", "caseL v1 nil cons v2 v3", OK);
        types("NL>L", "caseL caseL v1 nil v3 caseN v0 nil v1 cons v2 v3", OK);
        types("LN>N", "caseN caseL v0 zero v2 caseL v0 zero v2 v2", OK);
        types("LN>L", "caseN v1 caseL v0 nil v3 caseL v0 nil v4", OK);
        types("LN>L", "caseN v1 caseL v0 nil v3 caseL v0 nil v3", TYPE);
        types("LN>L", "caseL v0 caseN v1 nil nil caseN v2 v3 v3", OK);
    }

    /** "for child i of CALL g, the type of parameter i of g"; "CALL g, the result type of g" */
    private static void callTypes() {
        types("NL>N", "caseN v0 zero call0 v2 v1", OK);
        types("NL>N", "caseN v0 zero call0 v1 v1", TYPE);
        types("NL>N", "caseN v0 zero call0 v2 v2", TYPE);
        types("NL>L", "caseN v0 nil succ call0 v2 v1", TYPE);
        types("NL>N", "caseN v0 zero succ call0 v2 v1", OK);
        SizedTermination x = Programs.one("NNL>L", "v2");
        Programs.declare(x, "N>L", "call0 v0 v0 nil");
        Due.same("third is LIST", x.compile(), OK);
        Programs.declare(x, "N>L", "call0 v0 v0 v0");
        Due.same("third is not NAT", x.compile(), TYPE);
        Due.same("its function", x.getFaultFunction(), 2);
        x = Programs.one("L>N", "zero");
        Programs.declare(x, "N>L", "call0 nil");
        Due.same("result of the callee", x.compile(), TYPE);
        Due.same("its function", x.getFaultFunction(), 1);
    }

    private static void laterFunction() {
        SizedTermination x = Programs.one("L>L", "v0");
        Programs.declare(x, "N>N", "v0");
        Programs.declare(x, "L>N", "v0");
        Programs.declare(x, "N>L", "v0");
        Due.same("first of two", x.compile(), TYPE);
        Due.same("its function", x.getFaultFunction(), 2);
    }

    /** A fault of an earlier phase in a later node, or in a later function, comes first. */
    private static void namesBeforeTypes() {
        types("N>L", "cons nil v9", SizedTermination.CODE_SCOPE);
        types("N>L", "cons nil call9", SizedTermination.CODE_CALL);
        types("N>N", "nil nil", SizedTermination.CODE_SYNTAX);
        SizedTermination x = Programs.one("N>N", "nil");
        Programs.declare(x, "N>N", "v1");
        Due.same("a later function's scope", x.compile(), SizedTermination.CODE_SCOPE);
        Due.same("its function", x.getFaultFunction(), 1);
        // Types come before descent in the same way.
        types("N>N", "succ call0 nil", TYPE);
        types("NL>N", "call0 v0 v0", TYPE);
        x = Programs.one("N>N", Programs.LOOP);
        Programs.declare(x, "N>N", "nil");
        Due.same("a later function's type", x.compile(), TYPE);
        Due.same("its function", x.getFaultFunction(), 1);
    }
}
