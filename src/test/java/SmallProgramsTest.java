import java.util.ArrayList;
import java.util.List;

/**
 * Promises 5 and 9 to 11: every body of a few of these nodes, under some headers, on all inputs at
 * a cap of 1 or 2, on the class and on the model.
 */
public final class SmallProgramsTest {
    private static final String[] WORDS = {"v0", "v1", "v2", "v3", "zero", "nil", "succ", "cons",
        "call0", "call1", "caseN", "caseL"};

    private static Pair pair;
    private static int cap;
    private static String signature;
    /** The body of function 0, where function 1 has the bodies that are tried; empty for none. */
    private static String earlier;
    private static final List<String> body = new ArrayList<>();
    private static final int[] codesSeen = new int[8];
    private static final int[] endsSeen = new int[6];

    public static void main(String[] args) {
        bodies(2, "N>N", "", 7);
        bodies(2, "L>L", "", 6);
        bodies(1, "N>L", "", 6);
        bodies(1, "NL>N", "", 7);
        bodies(1, "LL>L", "", 7);
        bodies(1, "NNN>N", "", 7);
        bodies(2, "N>N", "caseN v0 zero call0 v1", 6);
        bodies(1, "NN>N", "caseN v1 v0 succ call0 v0 v2", 6);
        for (int code = 1; code <= 6; code++) {
            Due.same("code " + code + " seen often", codesSeen[code] > 100, true);
        }
        for (int end = 2; end <= 5; end++) {
            Due.same("status " + end + " seen often", endsSeen[end] > 100, true);
        }
        Due.end();
    }

    private static void bodies(int m, String header, String before, int mostNodes) {
        cap = m;
        signature = header;
        earlier = before;
        pair = new Pair(m);
        anyShape(3);
        rightShape(1, mostNodes);
    }

    /** Every body of up to so many nodes more. */
    private static void anyShape(int more) {
        tryBody();
        for (int i = 0; i < WORDS.length && more > 0; i++) {
            body.add(WORDS[i]);
            anyShape(more - 1);
            body.remove(body.size() - 1);
        }
    }

    /** Every body that wants so many expressions more, and ends within so many nodes more. */
    private static void rightShape(int need, int more) {
        if (need == 0) {
            tryBody();
            return;
        }
        for (String word : WORDS) {
            int wanted = need - 1 + arityOf(word);
            if (wanted < more) {
                body.add(word);
                rightShape(wanted, more - 1);
                body.remove(body.size() - 1);
            }
        }
    }

    private static int arityOf(String word) {
        switch (word) {
            case "succ": return 1;
            case "cons": return 2;
            case "call0": return signature.indexOf('>');
            case "call1": return earlier.isEmpty() ? 0 : signature.indexOf('>');
            case "caseN": case "caseL": return 3;
            default: return 0;
        }
    }

    private static void tryBody() {
        int wrongBefore = Due.wrong();
        pair.clearProgram();
        if (!earlier.isEmpty()) {
            declare(List.of(earlier.split(" ")));
        }
        declare(body);
        pair.compile();
        pair.look();
        int code = pair.x.getCode();
        codesSeen[code]++;
        if (code == SizedTermination.CODE_OK || code == SizedTermination.CODE_DESCENT) {
            runOnInputs(0);
        }
        if (Due.wrong() > wrongBefore) {
            System.out.println("  that was with " + signature + " " + earlier + " " + body);
        }
    }

    private static void declare(List<String> words) {
        pair.function(signature.indexOf('>'), Programs.maskOf(signature), Programs.resultOf(signature));
        for (String word : words) {
            pair.node(Programs.kindOf(word), Programs.argOf(word));
        }
    }

    /** Runs on all values of the slots from this one on. */
    private static void runOnInputs(int slot) {
        if (slot == signature.indexOf('>')) {
            run();
        } else if (signature.charAt(slot) == 'L') {
            runOnLists(slot, List.of());
        } else {
            for (int value = 0; value <= cap; value++) {
                pair.input(slot, SizedTermination.IN_NAT, value);
                runOnInputs(slot + 1);
            }
        }
    }

    private static void runOnLists(int slot, List<Integer> list) {
        pair.input(slot, SizedTermination.IN_NIL, 0);
        for (int value : list) {
            pair.input(slot, SizedTermination.IN_CONS, value);
        }
        runOnInputs(slot + 1);
        for (int value = 0; value <= cap && list.size() < cap; value++) {
            List<Integer> longer = new ArrayList<>(list);
            longer.add(value);
            runOnLists(slot, longer);
        }
    }

    /** A fuel of 20 lets some runs that do not end get too deep first. */
    private static void run() {
        pair.start(20);
        for (int i = 0; i < 20 && pair.x.getStatus() == SizedTermination.ST_READY; i++) {
            pair.run(1 + i);
            pair.look();
        }
        endsSeen[pair.x.getStatus()]++;
    }
}
