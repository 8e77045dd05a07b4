/** Promise 3; RefusalTest tries the refusals in every state. */
public final class FunctionTest {
    public static void main(String[] args) {
        refusals();
        refusalChangesNothing();
        refusedDoesNotTakeNodes();
        indexesAndLimit();
        everyGoodHeader();
        masks();
        masksAtStart();
        resetsAndBecomesMain();
        Due.end();
    }

    /** "refused, answering -1 .. if .. paramCount is not in 1..3, or resultType is not NAT or LIST" */
    private static void refusals() {
        SizedTermination x = new SizedTermination(6);
        int[][] wrong = {{0, 0, 0}, {4, 0, 0}, {-1, 0, 0}, {Integer.MAX_VALUE, 0, 0},
            {Integer.MIN_VALUE, 0, 0}, {1, 0, 2}, {1, 0, -1}, {3, 7, Integer.MAX_VALUE},
            {2, 1, Integer.MIN_VALUE}};
        for (int[] w : wrong) {
            String call = "function(" + w[0] + ", " + w[1] + ", " + w[2] + ")";
            Due.same(call, x.function(w[0], w[1], w[2]), -1);
        }
        Due.same("none declared", x.compile(), SizedTermination.CODE_EMPTY);
    }

    /** "refused, answering -1 with nothing changed" */
    private static void refusalChangesNothing() {
        SizedTermination x = Programs.one("N>N", Programs.HALF);
        x.compile();
        Programs.putNat(x, 0, 6);
        x.start(0);
        x.run(2);
        String before = Programs.all(x);
        Due.same("in a run", before.contains("status 1 calls 2 depth 2"), true);
        Due.same("bad count", x.function(0, 0, 0), -1);
        Due.same("bad type", x.function(1, 0, 2), -1);
        Due.same("unchanged", Programs.all(x), before);
        Due.same("goes on", x.run(100), SizedTermination.ST_DONE);
        Due.same("half of 6", x.resultNat(), 3);
    }

    /** After a refusal, nodes still go to the last function that was declared. */
    private static void refusedDoesNotTakeNodes() {
        SizedTermination x = new SizedTermination(6);
        Due.same("function", x.function(2, 2, SizedTermination.LIST), 0);
        Programs.append(x, "cons v0");
        Due.same("refused", x.function(4, 0, 0), -1);
        Due.same("refused", x.function(1, 0, 2), -1);
        Programs.append(x, "v1");
        Due.same("one body still", x.compile(), SizedTermination.CODE_OK);
        Programs.putNat(x, 0, 5);
        Programs.putList(x, 1, 4);
        Due.same("header still", Programs.outcome(x, 1), "status 2 calls 1 depth 0 result [5 4]");
        Due.same("next index", x.function(1, 0, 0), 1);
    }

    /** "It answers the index of the new function"; "the number .. already declared equals MAX_FUNCS" */
    private static void indexesAndLimit() {
        SizedTermination x = new SizedTermination(6);
        for (int f = 0; f < 6; f++) {
            Due.same("refused in between", x.function(0, 0, 0), -1);
            Due.same("index", Programs.declare(x, "N>N", "v0"), f);
        }
        Due.same("compile", x.compile(), SizedTermination.CODE_OK);
        String before = Programs.all(x);
        Due.same("seventh", x.function(1, 0, 0), -1);
        Due.same("unchanged", Programs.all(x), before);
        Programs.putNat(x, 0, 5);
        Due.same("still runs", Programs.outcome(x, 1), "status 2 calls 1 depth 0 result 5");
        for (int count = -1; count <= 4; count++) {
            for (int type = -1; type <= 2; type++) {
                Due.same("full, whatever is asked", x.function(count, 0, type), -1);
            }
        }
        Due.same("six still", x.compile(), SizedTermination.CODE_OK);
        x.clearProgram();
        Due.same("room again", x.function(1, 0, 0), 0);
    }

    /** Each count of 1..3 and each type is taken, and none on either side of them. */
    private static void everyGoodHeader() {
        for (int count = -1; count <= 5; count++) {
            for (int type = -2; type <= 3; type++) {
                SizedTermination x = new SizedTermination(6);
                boolean good = count >= 1 && count <= 3 && (type == 0 || type == 1);
                Due.same(count + " to " + type, x.function(count, 0, type), good ? 0 : -1);
                Due.same("declared", x.node(SizedTermination.K_ZERO, 0), good);
                int code = type == 0 ? SizedTermination.CODE_OK : SizedTermination.CODE_TYPE;
                Due.same("compile", x.compile(), good ? code : SizedTermination.CODE_EMPTY);
                Due.same("levels", good && levels(x) != count, false);
            }
        }
    }

    /** How many levels the parameters of function 0 take, told by the arity of a call of it. */
    private static int levels(SizedTermination x) {
        Due.same("caller", x.function(1, 0, 0), 1);
        Programs.append(x, "call0");
        int given = 0;
        while (given < 5 && x.compile() == SizedTermination.CODE_SYNTAX) {
            Programs.append(x, "v0");
            given++;
        }
        return given;
    }

    /** "parameter i (i < paramCount) is LIST if bit i of listMask is 1, else NAT" */
    private static void masks() {
        int[] masks = {0, 1, 2, 3, 4, 5, 6, 7, 8, -8, -1, Integer.MIN_VALUE, Integer.MAX_VALUE, 0x7ffffffa};
        for (int mask : masks) {
            for (int count = 1; count <= 3; count++) {
                for (int i = 0; i < count; i++) {
                    typeOf(count, mask, i);
                }
            }
        }
    }

    private static void typeOf(int count, int mask, int i) {
        boolean isList = (mask & (1 << i)) != 0;
        String what = "parameter " + i + " of " + count + " under mask " + mask;
        SizedTermination x = new SizedTermination(6);
        Due.same("function", x.function(count, mask, isList ? 1 : 0), 0);
        x.node(SizedTermination.K_VAR, i);
        Due.same(what, x.compile(), SizedTermination.CODE_OK);
        x.clearProgram();
        Due.same("function", x.function(count, mask, isList ? 0 : 1), 0);
        x.node(SizedTermination.K_VAR, i);
        Due.same(what + ", other type", x.compile(), SizedTermination.CODE_TYPE);
    }

    /** "other bits of listMask are ignored (any int, negative included, is accepted)" */
    private static void masksAtStart() {
        int[] noList = {0, 2, 4, 6, 8, -2, -8, Integer.MIN_VALUE, Integer.MAX_VALUE - 1, 256, 65536};
        for (int mask : noList) {
            startsWith(mask, false);
            startsWith(mask | 1, true);
        }
    }

    private static void startsWith(int mask, boolean list) {
        SizedTermination x = new SizedTermination(6);
        x.function(1, mask, 0);
        x.node(SizedTermination.K_ZERO, 0);
        Due.same("compile", x.compile(), SizedTermination.CODE_OK);
        Due.same("a natural under " + mask, x.start(1), !list);
        x.input(0, SizedTermination.IN_NIL, 0);
        Due.same("a list under " + mask, x.start(1), list);
        Programs.declare(x, "N>N", list ? "call0 nil" : "call0 v0");
        Due.same("an argument under " + mask, x.compile(), SizedTermination.CODE_OK);
    }

    /** "The new function becomes MAIN, its body starts empty, and later nodes go to it." */
    private static void resetsAndBecomesMain() {
        SizedTermination x = Programs.one("N>N", "v0");
        Programs.putNat(x, 0, 3);
        Programs.putList(x, 1, 2, 4);
        x.compile();
        Due.same("run", Programs.outcome(x, 1), "status 2 calls 1 depth 0 result 3");
        Due.same("second", x.function(2, 2, SizedTermination.LIST), 1);
        Due.same("reset", Programs.all(x), Programs.RESET);
        Due.same("run after reset", x.run(1), SizedTermination.ST_IDLE);
        Due.same("empty body", x.compile(), SizedTermination.CODE_SYNTAX);
        Due.same("its index", x.getFaultFunction(), 1);
        Programs.append(x, "cons call0 v0 v1");
        Due.same("compile", x.compile(), SizedTermination.CODE_OK);
        Due.same("inputs kept", Programs.outcome(x, 1), "status 2 calls 2 depth 0 result [3 2 4]");
    }
}
