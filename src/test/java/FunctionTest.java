/** Promise 3. */
public final class FunctionTest {
    public static void main(String[] args) {
        refusals();
        refusalChangesNothing();
        indexesAndLimit();
        masks();
        resetsAndBecomesMain();
        Due.end();
    }

    private static void refusals() {
        SizedTermination x = new SizedTermination(6);
        int[][] wrong = {{0, 0, 0}, {4, 0, 0}, {-1, 0, 0}, {Integer.MAX_VALUE, 0, 0},
            {Integer.MIN_VALUE, 0, 0}, {1, 0, 2}, {1, 0, -1}, {3, 7, Integer.MAX_VALUE},
            {2, 1, Integer.MIN_VALUE}};
        for (int[] w : wrong) {
            String call = "function(" + w[0] + ", " + w[1] + ", " + w[2] + ")";
            Due.same(call, x.function(w[0], w[1], w[2]), -1);
        }
        Due.same("none declared", x.compile(), SizedTermination.CODE_EMPTY);
    }

    private static void refusalChangesNothing() {
        SizedTermination x = Programs.one("N>N", Programs.HALF);
        x.compile();
        Programs.putNat(x, 0, 6);
        x.start(0);
        x.run(2);
        String before = Programs.all(x);
        Due.same("in a run", before.contains("status 1 calls 2 depth 2"), true);
        Due.same("bad count", x.function(0, 0, 0), -1);
        Due.same("bad type", x.function(1, 0, 2), -1);
        Due.same("unchanged", Programs.all(x), before);
        Due.same("goes on", x.run(100), SizedTermination.ST_DONE);
        Due.same("half of 6", x.resultNat(), 3);
    }

    private static void indexesAndLimit() {
        SizedTermination x = new SizedTermination(6);
        for (int f = 0; f < 6; f++) {
            Due.same("index", Programs.declare(x, "N>N", "v0"), f);
        }
        Due.same("compile", x.compile(), SizedTermination.CODE_OK);
        String before = Programs.all(x);
        Due.same("seventh", x.function(1, 0, 0), -1);
        Due.same("unchanged", Programs.all(x), before);
        Programs.putNat(x, 0, 5);
        Due.same("still runs", Programs.outcome(x, 1), "status 2 calls 1 depth 0 result 5");
    }

    private static void masks() {
        int[] masks = {0, 1, 2, 3, 4, 5, 6, 7, 8, -8, -1, Integer.MIN_VALUE, Integer.MAX_VALUE, 0x7ffffffa};
        for (int mask : masks) {
            for (int count = 1; count <= 3; count++) {
                for (int i = 0; i < count; i++) {
                    typeOf(count, mask, i);
                }
            }
        }
    }

    private static void typeOf(int count, int mask, int i) {
        boolean isList = (mask & (1 << i)) != 0;
        String what = "parameter " + i + " of " + count + " under mask " + mask;
        SizedTermination x = new SizedTermination(6);
        Due.same("function", x.function(count, mask, isList ? 1 : 0), 0);
        x.node(SizedTermination.K_VAR, i);
        Due.same(what, x.compile(), SizedTermination.CODE_OK);
        x.clearProgram();
        Due.same("function", x.function(count, mask, isList ? 0 : 1), 0);
        x.node(SizedTermination.K_VAR, i);
        Due.same(what + ", other type", x.compile(), SizedTermination.CODE_TYPE);
    }

    private static void resetsAndBecomesMain() {
        SizedTermination x = Programs.one("N>N", "v0");
        Programs.putNat(x, 0, 3);
        Programs.putList(x, 1, 2, 4);
        x.compile();
        Due.same("run", Programs.outcome(x, 1), "status 2 calls 1 depth 0 result 3");
        Due.same("second", x.function(2, 2, SizedTermination.LIST), 1);
        Due.same("reset", Programs.all(x), Programs.RESET);
        Due.same("run after reset", x.run(1), SizedTermination.ST_IDLE);
        Due.same("empty body", x.compile(), SizedTermination.CODE_SYNTAX);
        Due.same("its index", x.getFaultFunction(), 1);
        Programs.append(x, "cons call0 v0 v1");
        Due.same("compile", x.compile(), SizedTermination.CODE_OK);
        Due.same("inputs kept", Programs.outcome(x, 1), "status 2 calls 2 depth 0 result [3 2 4]");
    }
}
