import java.math.BigInteger;
import java.util.ArrayList;
import java.util.List;

/**
 * The document read a second time, as plainly as recursion, lists and exact integers allow, and
 * with nothing in common with the class: a run is evaluated whole at start(), keeping the depth
 * at each BEGIN, and run(k) only moves on along that record.
 */
final class Model {
    /** More activations than this are not recorded: the caller must not run on beyond. */
    static final int RECORDED = 3000;

    private static final class Function {
        final List<Integer> params = new ArrayList<>();
        int result;
        final List<int[]> nodes = new ArrayList<>();
    }

    private static final class Tree {
        int kind;
        int arg;
        final List<Tree> children = new ArrayList<>();
    }

    /** What is known of a variable when checking: its type, and its size fact or null. */
    private record Known(int type, int[] fact) {
    }

    private static final class Ended extends RuntimeException {
        private static final long serialVersionUID = 1;
        final int status;

        Ended(int status) {
            super(null, null, false, false);
            this.status = status;
        }
    }

    private final int m;
    private final List<Function> functions = new ArrayList<>();
    private final Object[] slots = {0, 0, 0};
    private List<Tree> bodies = new ArrayList<>();

    int code;
    int fault;
    long bound;
    int status;
    long calls;
    int depth;
    Object result;

    private final List<Integer> depthsAtBegin = new ArrayList<>();
    private int endStatus;
    private int endDepth;
    private Object endResult;
    private boolean cutOff;
    private long fuel;

    Model(int cap) {
        m = Math.max(1, Math.min(12, cap));
        reset();
    }

    private void reset() {
        code = 0;
        fault = -1;
        bound = 0;
        idle();
    }

    private void idle() {
        status = 0;
        calls = 0;
        depth = 0;
        result = null;
    }

    void clearProgram() {
        functions.clear();
        reset();
    }

    int function(int paramCount, int listMask, int resultType) {
        if (functions.size() == 6 || paramCount < 1 || paramCount > 3 || resultType < 0 || resultType > 1) {
            return -1;
        }
        Function f = new Function();
        for (int i = 0; i < paramCount; i++) {
            f.params.add((listMask & (1 << i)) != 0 ? 1 : 0);
        }
        f.result = resultType;
        functions.add(f);
        reset();
        return functions.size() - 1;
    }

    boolean node(int kind, int arg) {
        int nodes = functions.stream().mapToInt(f -> f.nodes.size()).sum();
        if (functions.isEmpty() || nodes == 64 || kind < 0 || kind > 7) {
            return false;
        }
        functions.get(functions.size() - 1).nodes.add(new int[] {kind, arg});
        reset();
        return true;
    }

    // ---- the check ----

    int compile() {
        reset();
        code = functions.isEmpty() ? 7 : 1;
        bodies = new ArrayList<>();
        for (int phase = 1; phase <= 4 && code == 1; phase++) {
            for (int f = 0; f < functions.size() && code == 1; f++) {
                code = phase(phase, f);
                fault = code == 1 ? -1 : f;
            }
        }
        if (code == 1) {
            bound = bound();
        }
        return code;
    }

    private int phase(int phase, int f) {
        Function function = functions.get(f);
        if (phase == 1) {
            int[] at = {0};
            Tree tree = parse(function.nodes, at);
            bodies.add(tree);
            return tree != null && at[0] == function.nodes.size() ? 1 : 2;
        }
        if (phase == 2) {
            return names(bodies.get(f), function.params.size(), f);
        }
        List<Known> scope = new ArrayList<>();
        for (int i = 0; i < function.params.size(); i++) {
            scope.add(new Known(function.params.get(i), new int[] {i, 0}));
        }
        if (phase == 3) {
            return typed(bodies.get(f), function.result, scope) ? 1 : 5;
        }
        return descends(bodies.get(f), scope, f) ? 1 : 6;
    }

    private Tree parse(List<int[]> nodes, int[] at) {
        if (at[0] == nodes.size()) {
            return null;
        }
        Tree tree = new Tree();
        tree.kind = nodes.get(at[0])[0];
        tree.arg = nodes.get(at[0])[1];
        at[0]++;
        int arity = new int[] {0, 0, 1, 0, 2, 0, 3, 3}[tree.kind];
        if (tree.kind == 5 && tree.arg >= 0 && tree.arg < functions.size()) {
            arity = functions.get(tree.arg).params.size();
        }
        for (int i = 0; i < arity; i++) {
            Tree child = parse(nodes, at);
            if (child == null) {
                return null;
            }
            tree.children.add(child);
        }
        return tree;
    }

    private int names(Tree t, int scope, int f) {
        if (t.kind == 0 && (t.arg < 0 || t.arg >= scope)) {
            return 3;
        }
        if (t.kind == 5 && (t.arg < 0 || t.arg > f)) {
            return 4;
        }
        for (int i = 0; i < t.children.size(); i++) {
            int opened = i == 2 && t.kind >= 6 ? t.kind - 5 : 0;
            int found = names(t.children.get(i), scope + opened, f);
            if (found != 1) {
                return found;
            }
        }
        return 1;
    }

    private List<Known> opened(Tree t, List<Known> scope) {
        List<Known> inner = new ArrayList<>(scope);
        int[] fact = fact(t.children.get(0), scope);
        int[] smaller = fact == null ? null : new int[] {fact[0], fact[1] + 1};
        if (t.kind == 7) {
            inner.add(new Known(0, null));
        }
        inner.add(new Known(t.kind == 7 ? 1 : 0, smaller));
        return inner;
    }

    private int[] fact(Tree t, List<Known> scope) {
        if (t.kind == 0) {
            return scope.get(t.arg).fact;
        }
        if (t.kind == 2 || t.kind == 4) {
            int[] inner = fact(t.children.get(t.kind == 2 ? 0 : 1), scope);
            return inner == null ? null : new int[] {inner[0], inner[1] - 1};
        }
        return null;
    }

    private boolean typed(Tree t, int expected, List<Known> scope) {
        switch (t.kind) {
            case 0: return scope.get(t.arg).type == expected;
            case 1: return expected == 0;
            case 2: return expected == 0 && typed(t.children.get(0), 0, scope);
            case 3: return expected == 1;
            case 4: return expected == 1 && typed(t.children.get(0), 0, scope)
                && typed(t.children.get(1), 1, scope);
            case 5:
                Function g = functions.get(t.arg);
                boolean fine = g.result == expected;
                for (int i = 0; i < t.children.size(); i++) {
                    fine = fine && typed(t.children.get(i), g.params.get(i), scope);
                }
                return fine;
            default: return typed(t.children.get(0), t.kind - 6, scope)
                && typed(t.children.get(1), expected, scope)
                && typed(t.children.get(2), expected, opened(t, scope));
        }
    }

    private boolean descends(Tree t, List<Known> scope, int f) {
        if (t.kind == 5 && t.arg == f) {
            boolean some = false;
            for (int i = 0; i < t.children.size(); i++) {
                boolean here = atLeast(t, i, 1, scope);
                for (int before = 0; before < i; before++) {
                    here = here && atLeast(t, before, 0, scope);
                }
                some = some || here;
            }
            if (!some) {
                return false;
            }
        }
        for (int i = 0; i < t.children.size(); i++) {
            List<Known> inner = i == 2 && t.kind >= 6 ? opened(t, scope) : scope;
            if (!descends(t.children.get(i), inner, f)) {
                return false;
            }
        }
        return true;
    }

    private boolean atLeast(Tree call, int i, int drop, List<Known> scope) {
        int[] fact = fact(call.children.get(i), scope);
        return fact != null && fact[0] == i && fact[1] >= drop;
    }

    private long bound() {
        List<BigInteger> totals = new ArrayList<>();
        for (int f = 0; f < functions.size(); f++) {
            BigInteger each = BigInteger.ONE;
            for (int g = 0; g < f; g++) {
                each = each.add(totals.get(g).multiply(BigInteger.valueOf(callsOf(f, g))));
            }
            BigInteger r = BigInteger.valueOf(callsOf(f, f));
            BigInteger sum = BigInteger.ZERO;
            long states = Math.round(Math.pow(m + 1, functions.get(f).params.size()));
            for (long i = 0; i < states; i++) {
                sum = sum.multiply(r).add(BigInteger.ONE);
            }
            totals.add(sum.multiply(each));
        }
        return totals.get(totals.size() - 1).min(BigInteger.valueOf(1000000000000L)).longValueExact();
    }

    private long callsOf(int f, int g) {
        return functions.get(f).nodes.stream().filter(n -> n[0] == 5 && n[1] == g).count();
    }

    // ---- inputs and the machine ----

    boolean input(int slot, int op, int value) {
        if (slot < 0 || slot > 2 || op < 0 || op > 2) {
            return false;
        }
        if (op == 1) {
            slots[slot] = new ArrayList<Integer>();
            return true;
        }
        if (value < 0 || value > m) {
            return false;
        }
        if (op == 0) {
            slots[slot] = value;
            return true;
        }
        if (slots[slot] instanceof Integer || ((List<?>) slots[slot]).size() == m) {
            return false;
        }
        slots[slot] = joined(value, (List<?>) slots[slot]);
        return true;
    }

    private static List<Object> joined(Object head, List<?> tail) {
        List<Object> list = new ArrayList<>();
        list.add(head);
        list.addAll(tail);
        return list;
    }

    boolean start(int asked) {
        if (code != 1 && code != 6) {
            return false;
        }
        Function main = functions.get(functions.size() - 1);
        List<Object> arguments = new ArrayList<>();
        for (int i = 0; i < main.params.size(); i++) {
            if ((slots[i] instanceof Integer ? 0 : 1) != main.params.get(i)) {
                return false;
            }
            arguments.add(slots[i]);
        }
        idle();
        status = 1;
        fuel = code == 1 ? bound : Math.max(1, Math.min(100000, asked));
        record(arguments);
        return true;
    }

    private void record(List<Object> arguments) {
        depthsAtBegin.clear();
        endDepth = 0;
        endResult = null;
        cutOff = false;
        try {
            endResult = activation(functions.size() - 1, arguments);
            endStatus = 2;
        } catch (Ended ended) {
            endStatus = ended.status;
        }
    }

    /** Whether run(k) would leave what was recorded. */
    boolean leavesTheRecord(int k) {
        return status == 1 && cutOff && calls + Math.max(1, Math.min(200, k)) >= RECORDED;
    }

    int run(int k) {
        if (status != 1) {
            return status;
        }
        long reached = calls + Math.max(1, Math.min(200, k));
        if (reached < depthsAtBegin.size()) {
            calls = reached;
            depth = depthsAtBegin.get((int) reached);
        } else {
            calls = depthsAtBegin.size();
            depth = endDepth;
            status = endStatus;
            result = endResult;
        }
        return status;
    }

    private Object activation(int f, List<Object> arguments) {
        if (depthsAtBegin.size() == RECORDED) {
            cutOff = true;
            throw new Ended(-1);
        }
        if (depthsAtBegin.size() == fuel) {
            throw new Ended(3);
        }
        if (endDepth == 16) {
            throw new Ended(5);
        }
        depthsAtBegin.add(endDepth);
        endDepth++;
        Object value = value(bodies.get(f), arguments);
        endDepth--;
        return value;
    }

    private Object value(Tree t, List<Object> levels) {
        switch (t.kind) {
            case 0: return levels.get(t.arg);
            case 1: return 0;
            case 3: return new ArrayList<Object>();
            case 2:
                int n = (Integer) value(t.children.get(0), levels);
                if (n == m) {
                    throw new Ended(4);
                }
                return n + 1;
            case 4:
                Object head = value(t.children.get(0), levels);
                List<?> tail = (List<?>) value(t.children.get(1), levels);
                if (tail.size() == m) {
                    throw new Ended(4);
                }
                return joined(head, tail);
            case 5:
                List<Object> arguments = new ArrayList<>();
                for (Tree child : t.children) {
                    arguments.add(value(child, levels));
                }
                return activation(t.arg, arguments);
            default: return chosen(t, levels);
        }
    }

    private Object chosen(Tree t, List<Object> levels) {
        Object matched = value(t.children.get(0), levels);
        List<Object> inner = new ArrayList<>(levels);
        if (t.kind == 6) {
            if ((Integer) matched == 0) {
                return value(t.children.get(1), levels);
            }
            inner.add((Integer) matched - 1);
        } else {
            List<?> list = (List<?>) matched;
            if (list.isEmpty()) {
                return value(t.children.get(1), levels);
            }
            inner.add(list.get(0));
            inner.add(new ArrayList<Object>(list.subList(1, list.size())));
        }
        return value(t.children.get(2), inner);
    }

    int resultNat() {
        return status == 2 && result instanceof Integer ? (Integer) result : -1;
    }

    int resultLength() {
        return status == 2 && result instanceof List ? ((List<?>) result).size() : -1;
    }

    int resultElem(int i) {
        return i >= 0 && i < resultLength() ? (Integer) ((List<?>) result).get(i) : -1;
    }
}
