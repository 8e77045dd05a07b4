/** All promises: calls in any order, with arguments at the edges, on the class and on the model. */
public final class AnyOrderTest {
    private static final int OBJECTS = 3000;
    private static final int CALLS = 250;
    private static final int[] EDGES = {Integer.MIN_VALUE, -256, -1, 0, 1, 2, 3, 4, 5, 6, 7, 8, 11, 12,
        13, 15, 16, 17, 63, 64, 65, 199, 200, 201, 256, 99999, 100000, 100001, Integer.MAX_VALUE};

    /** The bodies of one object's functions, all of one signature; @ is the function's own number. */
    private static final String[] SIGNATURES = {"NLN>N", "LN>L", "N>N"};
    private static final String[][] BODIES = {
        {"v0", "v2", "succ v2", "caseN v0 v2 call@ v3 v1 v2", "call@ v0 v1 v2", "call0 v0 v1 v2",
            "caseL v1 v0 call@ v0 v4 v2", "caseN v0 v2 call@ v3 v1 call@ v3 v1 v2", "nil", "v3",
            "succ", "call6", "v0 v0", "succ call@ v0 v1 succ v2", "call1 v2 v1 call0 v0 v1 v2"},
        {"v0", "nil", "cons v1 v0", "caseL v0 nil cons v2 call@ v3 v1", "caseN v1 v0 call@ cons v1 v0 v2",
            "caseN v1 v0 call@ v0 v2", "call@ v0 v1", "call0 v0 v1", "call0 cons v1 v0 v1", "zero", "v2",
            "cons v1", "cons v1 cons v1 v0", "call-1", "caseL v0 nil call@ call0 v3 v2 v1"},
        {"v0", "succ v0", Programs.HALF.replace("call0", "call@"), "call@ v0", "call0 v0", "call1 v0",
            "caseN v0 zero caseN call@ v1 call@ v1 call@ v1", "caseN v0 succ zero succ call@ v1",
            "zero zero", "v1", "call5 v0", "succ succ v0", "call@ succ v0"}};

    private static long seed = 51115L;
    private static Pair pair;
    private static int family;
    private static final int[] codesSeen = new int[8];
    private static final int[] statusesSeen = new int[6];

    public static void main(String[] args) {
        for (int i = 0; i < OBJECTS && Due.wrong() < 20; i++) {
            pair = new Pair(below(2) == 0 ? below(16) - 2 : edge());
            family = below(BODIES.length);
            for (int j = 0; j < CALLS; j++) {
                anyCall(below(100));
                pair.look();
                codesSeen[pair.x.getCode()]++;
                statusesSeen[pair.x.getStatus()]++;
            }
        }
        for (int code = 0; code < codesSeen.length; code++) {
            Due.same("code " + code + " seen often", codesSeen[code] > 1000, true);
        }
        for (int status = 0; status < statusesSeen.length; status++) {
            Due.same("status " + status + " seen often", statusesSeen[status] > 1000, true);
        }
        Due.end();
    }

    /** A linear rule, so that the same calls come at every time and on every machine. */
    private static int below(int n) {
        seed = seed * 6364136223846793005L + 1442695040888963407L;
        return (int) ((seed >>> 33) % n);
    }

    private static int edge() {
        return EDGES[below(EDGES.length)];
    }

    private static void anyCall(int choice) {
        if (choice < 1) {
            pair.clearProgram();
        } else if (choice < 9) {
            declare();
        } else if (choice < 10) {
            pair.function(edge(), edge(), edge());
        } else if (choice < 12) {
            pair.node(below(8) == 0 ? below(8) : edge(), edge());
        } else if (choice < 25) {
            pair.compile();
        } else if (choice < 33) {
            fitInputs();
        } else if (choice < 45) {
            pair.input(below(9) == 0 ? edge() : below(3), below(9) == 0 ? edge() : below(3), edge());
        } else if (choice < 62) {
            pair.start(edge());
        } else {
            pair.run(edge());
        }
    }

    private static void declare() {
        int own = declareHeader();
        String body = BODIES[family][below(BODIES[family].length)].replace("@", "" + own);
        for (String word : body.split(" ")) {
            pair.node(Programs.kindOf(word), Programs.argOf(word));
        }
    }

    private static int declareHeader() {
        if (below(2) == 0) {
            pair.clearProgram();
        }
        String signature = SIGNATURES[family];
        return pair.function(signature.indexOf('>'), Programs.maskOf(signature), Programs.resultOf(signature));
    }

    /** Naturals and lists where the family's functions want them. */
    private static void fitInputs() {
        int mask = Programs.maskOf(SIGNATURES[family]);
        for (int slot = 0; slot < 3; slot++) {
            boolean list = (mask >> slot & 1) == 1;
            pair.input(slot, list ? SizedTermination.IN_NIL : SizedTermination.IN_NAT, below(13));
            int elements = list ? below(13) : 0;
            for (int i = 0; i < elements; i++) {
                pair.input(slot, SizedTermination.IN_CONS, below(8));
            }
        }
    }
}
