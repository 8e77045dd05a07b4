/** All promises: long runs of calls made up by a fixed rule, on the class and on the model. */
public final class ModelTest {
    private static final int PROGRAMS = 60000;
    private static long seed = 20261115L;
    private static final int[] codesSeen = new int[8];
    private static final int[] endsSeen = new int[6];

    private static int cap;
    private static Pair pair;
    /** The parameter and result types of the functions of the program being written. */
    private static final int[] counts = new int[6];
    private static final int[] masks = new int[6];
    private static final int[] results = new int[6];
    private static int functions;
    private static int room;
    /** The parameter that the body matches first, and the level of what is left of it. */
    private static int matched;
    private static int smaller;

    public static void main(String[] args) {
        for (int i = 0; i < PROGRAMS && Due.wrong() < 20; i++) {
            if (i % 8 == 0) {
                cap = below(16) - 1;
                pair = new Pair(cap);
            }
            writeProgram();
            useProgram();
        }
        for (int code = 1; code <= 7; code++) {
            Due.same("code " + code + " seen often", codesSeen[code] > 100, true);
        }
        for (int status = 2; status <= 5; status++) {
            Due.same("status " + status + " seen often", endsSeen[status] > 100, true);
        }
        Due.end();
    }

    /** A linear rule, so that the same calls come at every time and on every machine. */
    private static int below(int n) {
        seed = seed * 6364136223846793005L + 1442695040888963407L;
        return (int) ((seed >>> 33) % n);
    }

    private static boolean chance(int percent) {
        return below(100) < percent;
    }

    // ---- writing a program: well formed for the most part ----

    private static void writeProgram() {
        pair.clearProgram();
        functions = 0;
        room = 64;
        int wanted = chance(2) ? 0 : 1 + below(chance(10) ? 7 : 3);
        for (int f = 0; f < wanted; f++) {
            int count = chance(1) ? below(6) - 1 : 1 + below(3);
            int mask = chance(5) ? below(1 << 30) * 4 : below(8);
            int result = chance(1) ? below(5) - 2 : below(2);
            int index = pair.function(count, mask, result);
            if (index >= 0) {
                counts[index] = count;
                masks[index] = mask;
                results[index] = result;
                functions = index + 1;
                writeBody(index);
            }
            if (chance(1)) {
                append(below(10) - 1, below(8) - 1);
            }
        }
        pair.look();
    }

    /** Most bodies match a parameter at once: so self-calls can descend, and most will. */
    private static void writeBody(int f) {
        String types = typesOf(f);
        matched = -1;
        if (chance(20)) {
            writeExpression(f, results[f], types, 6);
            return;
        }
        matched = below(types.length());
        boolean list = types.charAt(matched) == 'L';
        smaller = list ? types.length() + 1 : types.length();
        append(list ? 7 : 6, 0);
        append(0, matched);
        writeExpression(f, results[f], types, 0);
        writeExpression(f, results[f], types + (list ? "NL" : "N"), 6);
    }

    private static String typesOf(int f) {
        StringBuilder types = new StringBuilder();
        for (int i = 0; i < counts[f]; i++) {
            types.append((masks[f] >> i & 1) == 1 ? 'L' : 'N');
        }
        return types.toString();
    }

    private static void append(int kind, int arg) {
        room--;
        pair.node(kind, arg);
    }

    /** types holds one letter a level; small-looking variables are liked for self-calls. */
    private static void writeExpression(int f, int type, String types, int deep) {
        if (chance(1) && chance(30)) {
            append(below(8), below(10) - 1);
            return;
        }
        int choice = deep == 0 || room < 8 ? below(30) : below(100);
        if (choice < 30) {
            writeLeaf(type, types);
        } else if (choice < 50) {
            append(type == 0 ? 2 : 4, below(9));
            if (type == 1) {
                writeExpression(f, 0, types, deep - 2 < 0 ? 0 : deep - 2);
            }
            writeExpression(f, type, types, deep - 1);
        } else if (choice < 80) {
            writeCase(f, type, types, deep);
        } else {
            writeCall(f, type, types, deep);
        }
    }

    private static void writeLeaf(int type, String types) {
        int from = below(types.length());
        for (int i = 0; i < types.length() && !chance(15); i++) {
            int level = (from + i) % types.length();
            if ((types.charAt(level) == 'L') == (type == 1)) {
                append(0, level);
                return;
            }
        }
        append(type == 0 ? 1 : 3, 0);
    }

    private static void writeCase(int f, int type, String types, int deep) {
        int on = below(2);
        append(6 + on, below(3));
        if (chance(80)) {
            writeLeaf(on, types);
        } else {
            writeExpression(f, on, types, deep - 1);
        }
        writeExpression(f, type, types, chance(60) ? 0 : deep - 1);
        writeExpression(f, type, types + (on == 0 ? "N" : "NL"), deep - 1);
    }

    private static void writeCall(int f, int type, String types, int deep) {
        int g = chance(70) ? f : below(f + 1);
        if (results[g] != type && !chance(2)) {
            g = f;
        }
        if (results[g] != type && !chance(2)) {
            writeLeaf(type, types);
            return;
        }
        append(5, g);
        String wanted = typesOf(g);
        boolean descending = g == f && matched >= 0 && types.length() > smaller && chance(85);
        for (int i = 0; i < wanted.length(); i++) {
            int argumentType = wanted.charAt(i) == 'L' ? 1 : 0;
            if (descending && i <= matched) {
                append(0, i < matched ? i : smaller);
            } else if (i < types.length() && types.charAt(i) == wanted.charAt(i) && chance(35)) {
                append(0, i);
            } else if (chance(60)) {
                writeLatest(argumentType, types);
            } else {
                writeExpression(f, argumentType, types, deep - 1);
            }
        }
    }

    private static void writeLatest(int type, String types) {
        int level = types.lastIndexOf(type == 1 ? 'L' : 'N');
        if (level < 0) {
            append(type == 0 ? 1 : 3, 0);
        } else {
            append(0, level);
        }
    }

    // ---- using it ----

    private static void useProgram() {
        if (chance(3)) {
            tryStart();
        }
        pair.compile();
        codesSeen[pair.x.getCode()]++;
        pair.look();
        for (int go = 0; go < 4; go++) {
            fillInputs();
            tryStart();
            for (int i = 0; i < 60 && pair.x.getStatus() == SizedTermination.ST_READY; i++) {
                int k = chance(50) ? 1 + below(4) : below(400) - 100;
                if (!pair.run(k)) {
                    break;
                }
                pair.look();
                if (chance(4)) {
                    fillInputs();
                }
                if (chance(1)) {
                    tryStart();
                }
            }
            endsSeen[pair.x.getStatus()]++;
        }
    }

    private static void fillInputs() {
        for (int slot = -1; slot < 4; slot++) {
            boolean list = functions > 0 && slot >= 0 && (masks[functions - 1] >> slot & 1) == 1;
            int op = chance(1) ? below(5) - 1 : list ? 1 : 0;
            pair.input(slot, op, chance(95) ? below(Math.max(cap, 1)) : below(15) - 1);
            int elements = op == 1 ? below(14) : 0;
            for (int i = 0; i < elements; i++) {
                pair.input(slot, 2, below(13));
            }
        }
        pair.look();
    }

    private static void tryStart() {
        pair.start(chance(30) ? below(30) - 3 : below(200000));
        pair.look();
    }
}
