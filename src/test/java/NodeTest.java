/** Promise 4; RefusalTest tries the refusals in every state. */
public final class NodeTest {
    public static void main(String[] args) {
        refusals();
        everyKind();
        refusedIsNotAppended();
        limitInOneBody();
        limitOverTheWholeProgram();
        limitOverSixBodies();
        anyArgIsKept();
        resets();
        Due.end();
    }

    /** "refused .. if no function exists, .. or kind is not in 0..7" */
    private static void refusals() {
        SizedTermination x = new SizedTermination(6);
        for (int kind = -1; kind <= 8; kind++) {
            Due.same("node without a function", x.node(kind, 0), false);
        }
        x.function(1, 0, 0);
        int[] wrong = {-1, 8, 9, Integer.MIN_VALUE, Integer.MAX_VALUE};
        for (int kind : wrong) {
            Due.same("node(" + kind + ", 0)", x.node(kind, 0), false);
        }
        Programs.append(x, Programs.HALF);
        Due.same("compile", x.compile(), SizedTermination.CODE_OK);
        Programs.putNat(x, 0, 4);
        x.start(0);
        x.run(1);
        String before = Programs.all(x);
        Due.same("refused in a run", x.node(8, 0), false);
        Due.same("unchanged", Programs.all(x), before);
        Due.same("goes on", x.run(9), SizedTermination.ST_DONE);
        Due.same("half of 4", x.resultNat(), 2);
    }

    /** "kind is not in 0..7" */
    private static void everyKind() {
        for (int kind = -3; kind <= 11; kind++) {
            SizedTermination x = new SizedTermination(6);
            x.function(1, 0, 0);
            Due.same("kind " + kind, x.node(kind, 0), kind >= 0 && kind <= 7);
        }
    }

    /** "refused, answering false with nothing changed": the body goes on where it stood. */
    private static void refusedIsNotAppended() {
        SizedTermination x = new SizedTermination(6);
        x.function(1, 0, 0);
        Programs.append(x, "caseN v0");
        Due.same("refused", x.node(8, 0), false);
        Programs.append(x, "zero");
        Due.same("refused", x.node(-1, 0), false);
        Programs.append(x, "v1");
        Due.same("refused", x.node(Integer.MAX_VALUE, 0), false);
        Due.same("compile", x.compile(), SizedTermination.CODE_OK);
        Programs.putNat(x, 0, 5);
        Due.same("runs", Programs.outcome(x, 1), "status 2 calls 1 depth 0 result 4");
    }

    /** "MAX_NODES nodes exist in the whole program" */
    private static void limitInOneBody() {
        SizedTermination x = new SizedTermination(12);
        x.function(1, 0, 0);
        for (int n = 1; n < SizedTermination.MAX_NODES; n++) {
            Due.same("node " + n, x.node(SizedTermination.K_SUCC, 0), true);
        }
        Due.same("one child is missing", x.compile(), SizedTermination.CODE_SYNTAX);
        Due.same("node 64", x.node(SizedTermination.K_ZERO, 0), true);
        Due.same("64 nodes", x.compile(), SizedTermination.CODE_OK);
        Due.same("node 65", x.node(SizedTermination.K_ZERO, 0), false);
        Due.same("64 nodes still", x.compile(), SizedTermination.CODE_OK);
        Due.same("run", Programs.outcome(x, 1), "status 4 calls 1 depth 1 result -1");
    }

    /** "in the whole program": no body has many of them. */
    private static void limitOverSixBodies() {
        SizedTermination x = new SizedTermination(12);
        int[] sizes = {10, 11, 11, 11, 11, 10};
        for (int f = 0; f < 6; f++) {
            x.function(1, 0, 0);
            for (int n = 1; n < sizes[f]; n++) {
                Due.same("node", x.node(SizedTermination.K_SUCC, 0), true);
            }
            Due.same("node", x.node(SizedTermination.K_VAR, 0), true);
        }
        Due.same("64 nodes", x.compile(), SizedTermination.CODE_OK);
        Due.same("node 65", x.node(SizedTermination.K_ZERO, 0), false);
        Due.same("accepted still", x.getCode(), SizedTermination.CODE_OK);
        Programs.putNat(x, 0, 3);
        Due.same("the last body", Programs.outcome(x, 1), "status 2 calls 1 depth 0 result 12");
        x.clearProgram();
        x.function(1, 0, 0);
        Due.same("room again", x.node(SizedTermination.K_ZERO, 0), true);
    }

    /** A full program takes a function still, but no node for it. */
    private static void limitOverTheWholeProgram() {
        SizedTermination x = new SizedTermination(12);
        Programs.declare(x, "N>N", "v0");
        x.function(1, 0, 0);
        for (int n = 1; n < SizedTermination.MAX_NODES - 1; n++) {
            Due.same("node " + n, x.node(SizedTermination.K_SUCC, 0), true);
        }
        Due.same("last node", x.node(SizedTermination.K_VAR, 0), true);
        Due.same("compile", x.compile(), SizedTermination.CODE_OK);
        String before = Programs.all(x);
        for (int kind = 0; kind < 8; kind++) {
            Due.same("one too many", x.node(kind, 0), false);
        }
        Due.same("unchanged", Programs.all(x), before);
        Due.same("still fits", x.compile(), SizedTermination.CODE_OK);
        Due.same("a function still", x.function(1, 0, 0), 2);
        Due.same("without room for a node", x.node(SizedTermination.K_ZERO, 0), false);
        Due.same("empty body at the end", x.compile(), SizedTermination.CODE_SYNTAX);
        Due.same("fault", x.getFaultFunction(), 2);
    }

    /** "Any arg is kept as given"; "The arg of kinds other than K_VAR and K_CALL is ignored." */
    private static void anyArgIsKept() {
        int[] args = {Integer.MIN_VALUE, Integer.MIN_VALUE + 1, -256, -1, 1, 64, 256, 65536, 1 << 30,
            Integer.MAX_VALUE};
        for (int arg : args) {
            SizedTermination x = Programs.one("N>N", "");
            Due.same("var " + arg, x.node(SizedTermination.K_VAR, arg), true);
            Due.same("scope " + arg, x.compile(), SizedTermination.CODE_SCOPE);
            x.clearProgram();
            x.function(1, 0, 0);
            Due.same("call " + arg, x.node(SizedTermination.K_CALL, arg), true);
            Due.same("call " + arg, x.compile(), SizedTermination.CODE_CALL);
            x.clearProgram();
            x.function(1, 1, 0);
            int[] kinds = {SizedTermination.K_CASE_LIST, SizedTermination.K_CONS,
                SizedTermination.K_ZERO, SizedTermination.K_NIL, SizedTermination.K_CASE_NAT,
                SizedTermination.K_ZERO, SizedTermination.K_ZERO, SizedTermination.K_SUCC,
                SizedTermination.K_ZERO, SizedTermination.K_SUCC, SizedTermination.K_ZERO};
            for (int kind : kinds) {
                Due.same("other kind", x.node(kind, arg), true);
            }
            Due.same("arg of other kinds ignored", x.compile(), SizedTermination.CODE_OK);
            x.input(0, SizedTermination.IN_NIL, 0);
            Due.same("runs", Programs.outcome(x, 1), "status 2 calls 1 depth 0 result 1");
        }
    }

    /** "Otherwise it answers true and RESETs." */
    private static void resets() {
        SizedTermination x = Programs.one("N>N", "v0");
        Programs.putNat(x, 0, 3);
        x.compile();
        Due.same("run", Programs.outcome(x, 1), "status 2 calls 1 depth 0 result 3");
        Due.same("node", x.node(SizedTermination.K_ZERO, 0), true);
        Due.same("reset", Programs.all(x), Programs.RESET);
        Due.same("start", x.start(1), false);
        Due.same("compile", x.compile(), SizedTermination.CODE_SYNTAX);
        Due.same("slot kept", Programs.slot(x, "N", 0), "3");
    }
}
