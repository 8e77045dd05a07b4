/** Promise 4. */
public final class NodeTest {
    public static void main(String[] args) {
        refusals();
        limitOverTheWholeProgram();
        anyArgIsKept();
        resets();
        Due.end();
    }

    private static void refusals() {
        SizedTermination x = new SizedTermination(6);
        for (int kind = -1; kind <= 8; kind++) {
            Due.same("node without a function", x.node(kind, 0), false);
        }
        x.function(1, 0, 0);
        int[] wrong = {-1, 8, 9, Integer.MIN_VALUE, Integer.MAX_VALUE};
        for (int kind : wrong) {
            Due.same("node(" + kind + ", 0)", x.node(kind, 0), false);
        }
        Programs.append(x, Programs.HALF);
        Due.same("compile", x.compile(), SizedTermination.CODE_OK);
        Programs.putNat(x, 0, 4);
        x.start(0);
        x.run(1);
        String before = Programs.all(x);
        Due.same("refused in a run", x.node(8, 0), false);
        Due.same("unchanged", Programs.all(x), before);
        Due.same("goes on", x.run(9), SizedTermination.ST_DONE);
        Due.same("half of 4", x.resultNat(), 2);
    }

    private static void limitOverTheWholeProgram() {
        SizedTermination x = new SizedTermination(12);
        Programs.declare(x, "N>N", "v0");
        x.function(1, 0, 0);
        for (int n = 1; n < SizedTermination.MAX_NODES - 1; n++) {
            Due.same("node " + n, x.node(SizedTermination.K_SUCC, 0), true);
        }
        Due.same("last node", x.node(SizedTermination.K_VAR, 0), true);
        Due.same("compile", x.compile(), SizedTermination.CODE_OK);
        String before = Programs.all(x);
        for (int kind = 0; kind < 8; kind++) {
            Due.same("one too many", x.node(kind, 0), false);
        }
        Due.same("unchanged", Programs.all(x), before);
        Due.same("still fits", x.compile(), SizedTermination.CODE_OK);
        Due.same("a function still", x.function(1, 0, 0), 2);
        Due.same("without room for a node", x.node(SizedTermination.K_ZERO, 0), false);
        Due.same("empty body at the end", x.compile(), SizedTermination.CODE_SYNTAX);
        Due.same("fault", x.getFaultFunction(), 2);
    }

    private static void anyArgIsKept() {
        int[] args = {Integer.MIN_VALUE, -1, 1, 64, Integer.MAX_VALUE};
        for (int arg : args) {
            SizedTermination x = Programs.one("N>N", "");
            Due.same("var " + arg, x.node(SizedTermination.K_VAR, arg), true);
            Due.same("scope " + arg, x.compile(), SizedTermination.CODE_SCOPE);
            x.clearProgram();
            x.function(1, 0, 0);
            Due.same("call " + arg, x.node(SizedTermination.K_CALL, arg), true);
            Due.same("call " + arg, x.compile(), SizedTermination.CODE_CALL);
            x.clearProgram();
            x.function(1, 1, 0);
            int[] kinds = {SizedTermination.K_CASE_LIST, SizedTermination.K_CONS,
                SizedTermination.K_ZERO, SizedTermination.K_NIL, SizedTermination.K_CASE_NAT,
                SizedTermination.K_ZERO, SizedTermination.K_ZERO, SizedTermination.K_SUCC,
                SizedTermination.K_ZERO, SizedTermination.K_SUCC, SizedTermination.K_ZERO};
            for (int kind : kinds) {
                Due.same("other kind", x.node(kind, arg), true);
            }
            Due.same("arg of other kinds ignored", x.compile(), SizedTermination.CODE_OK);
            x.input(0, SizedTermination.IN_NIL, 0);
            Due.same("runs", Programs.outcome(x, 1), "status 2 calls 1 depth 0 result 1");
        }
    }

    private static void resets() {
        SizedTermination x = Programs.one("N>N", "v0");
        Programs.putNat(x, 0, 3);
        x.compile();
        Due.same("run", Programs.outcome(x, 1), "status 2 calls 1 depth 0 result 3");
        Due.same("node", x.node(SizedTermination.K_ZERO, 0), true);
        Due.same("reset", Programs.all(x), Programs.RESET);
        Due.same("start", x.start(1), false);
        Due.same("compile", x.compile(), SizedTermination.CODE_SYNTAX);
        Due.same("slot kept", Programs.slot(x, "N", 0), "3");
    }
}
