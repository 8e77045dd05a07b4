public final class SizedTermination {
    public static final int MAX_FUNCS = 6;
    public static final int MAX_NODES = 64;
    public static final int MAX_DEPTH = 16;
    public static final int MAX_RUN = 200;
    public static final int MAX_FUEL = 100000;
    public static final long BOUND_CAP = 1000000000000L;
    public static final int NAT = 0;
    public static final int LIST = 1;
    public static final int K_VAR = 0;
    public static final int K_ZERO = 1;
    public static final int K_SUCC = 2;
    public static final int K_NIL = 3;
    public static final int K_CONS = 4;
    public static final int K_CALL = 5;
    public static final int K_CASE_NAT = 6;
    public static final int K_CASE_LIST = 7;
    public static final int IN_NAT = 0;
    public static final int IN_NIL = 1;
    public static final int IN_CONS = 2;
    public static final int CODE_NOT_COMPILED = 0;
    public static final int CODE_OK = 1;
    public static final int CODE_SYNTAX = 2;
    public static final int CODE_SCOPE = 3;
    public static final int CODE_CALL = 4;
    public static final int CODE_TYPE = 5;
    public static final int CODE_DESCENT = 6;
    public static final int CODE_EMPTY = 7;
    public static final int ST_IDLE = 0;
    public static final int ST_READY = 1;
    public static final int ST_DONE = 2;
    public static final int ST_OUT_OF_FUEL = 3;
    public static final int ST_OVERFLOW = 4;
    public static final int ST_TOO_DEEP = 5;

    private static final int MAX_SIZE_CAP = 12;
    private static final int MAX_PARAMS = 3;
    // Of all programs, nested CASE_LISTs open the most levels; each spends three nodes
    // (itself, child0, child1) before its child2, and the innermost child2 one more.
    private static final int MAX_LEVELS = MAX_PARAMS + 2 * ((MAX_NODES - 1) / 3);
    private static final int LEVEL_CELLS = MAX_DEPTH * MAX_LEVELS;
    private static final int NODE_CELLS = MAX_DEPTH * MAX_NODES;
    private static final int NONE = -1;
    private static final int PHASE_SHAPE = 1;
    private static final int PHASE_NAMES = 2;
    private static final int PHASE_TYPES = 3;
    private static final int PHASE_DESCENT = 4;
    // A run() begins at most MAX_RUN activations and goes on with at most MAX_DEPTH older
    // ones, and each passes a node at most twice: under 30000 steps.
    private static final int STEP_LIMIT = 1000000;

    // A list is one long, four bits a place: its length lowest, then its elements from the
    // front on. The cap of 12 lets every length and element fit in its place.
    private static final int PLACE_BITS = 4;
    private static final long PLACE_MASK = 15L;
    private static final long EMPTY_LIST = 0L;

    private final int sizeCap;

    private int functionCount;
    private final int[] paramCounts = new int[MAX_FUNCS];
    private final int[] listMasks = new int[MAX_FUNCS];
    private final int[] resultTypes = new int[MAX_FUNCS];
    private final int[] bodyStarts = new int[MAX_FUNCS];
    private int nodeCount;
    private final int[] nodeKinds = new int[MAX_NODES];
    private final int[] nodeArgs = new int[MAX_NODES];

    private int code;
    private int faultFunction;
    private long bound;

    // The trees of the bodies, known once every body has passed the phase of shape.
    private final int[] parents = new int[MAX_NODES];
    private final int[] childIndexes = new int[MAX_NODES];
    private final int[] subtreeEnds = new int[MAX_NODES];
    private final int[] scopeSizes = new int[MAX_NODES];

    // What compile() knows of the variables in scope at the node it looks at.
    private final int[] levelTypes = new int[MAX_LEVELS];
    private final int[] levelParams = new int[MAX_LEVELS];
    private final int[] levelDrops = new int[MAX_LEVELS];
    private final int[] expectedTypes = new int[MAX_NODES];
    private int foundParam;
    private int foundDrop;
    private final long[] totals = new long[MAX_FUNCS];

    private final int[] slotTypes = new int[MAX_PARAMS];
    private final long[] slotValues = new long[MAX_PARAMS];

    private int status;
    private long calls;
    private int depth;
    private long fuelLimit;
    private int begun;
    private int beginLimit;
    private int waitingFunction;
    private final long[] waitingArgs = new long[MAX_PARAMS];
    private int currentNode;
    private boolean valueKnown;
    private long currentValue;

    // One stretch of cells for each activation that is not finished.
    private final int[] callNodes = new int[MAX_DEPTH];
    private final long[] levelValues = new long[LEVEL_CELLS];
    private final long[] nodeValues = new long[NODE_CELLS];

    public SizedTermination(int cap) {
        sizeCap = clamp(cap, 1, MAX_SIZE_CAP);
        resetCheckAndRun();
    }

    public void clearProgram() {
        functionCount = 0;
        nodeCount = 0;
        resetCheckAndRun();
    }

    public int function(int paramCount, int listMask, int resultType) {
        if (functionCount == MAX_FUNCS || paramCount < 1 || paramCount > MAX_PARAMS) {
            return -1;
        }
        if (resultType != NAT && resultType != LIST) {
            return -1;
        }
        int f = functionCount;
        paramCounts[f] = paramCount;
        listMasks[f] = listMask;
        resultTypes[f] = resultType;
        bodyStarts[f] = nodeCount;
        functionCount = f + 1;
        resetCheckAndRun();
        return f;
    }

    public boolean node(int kind, int arg) {
        if (functionCount == 0 || nodeCount == MAX_NODES || kind < K_VAR || kind > K_CASE_LIST) {
            return false;
        }
        nodeKinds[nodeCount] = kind;
        nodeArgs[nodeCount] = arg;
        nodeCount++;
        resetCheckAndRun();
        return true;
    }

    public int compile() {
        resetCheckAndRun();
        if (functionCount == 0) {
            code = CODE_EMPTY;
            return code;
        }
        code = CODE_OK;
        for (int phase = PHASE_SHAPE; phase <= PHASE_DESCENT && code == CODE_OK; phase++) {
            checkFunctions(phase);
        }
        if (code == CODE_OK) {
            bound = activationBound();
        }
        return code;
    }

    public int getCode() {
        return code;
    }

    public int getFaultFunction() {
        return faultFunction;
    }

    public long getBound() {
        return bound;
    }

    public boolean input(int slot, int op, int value) {
        if (slot < 0 || slot >= MAX_PARAMS) {
            return false;
        }
        switch (op) {
            case IN_NAT:
                return inputNat(slot, value);
            case IN_NIL:
                slotTypes[slot] = LIST;
                slotValues[slot] = EMPTY_LIST;
                return true;
            case IN_CONS:
                return inputCons(slot, value);
            default:
                return false;
        }
    }

    public boolean start(int fuel) {
        if (code != CODE_OK && code != CODE_DESCENT) {
            return false;
        }
        int main = functionCount - 1;
        if (!inputsFit(main)) {
            return false;
        }
        resetRun();
        fuelLimit = code == CODE_OK ? bound : clamp(fuel, 1, MAX_FUEL);
        for (int i = 0; i < paramCounts[main]; i++) {
            waitingArgs[i] = slotValues[i];
        }
        waitingFunction = main;
        currentNode = NONE;
        status = ST_READY;
        return true;
    }

    public int run(int k) {
        if (status != ST_READY) {
            return status;
        }
        beginLimit = clamp(k, 1, MAX_RUN);
        begun = 0;
        boolean goesOn = beginActivation();
        for (int i = 0; i < STEP_LIMIT && goesOn; i++) {
            goesOn = valueKnown ? handValueUp() : enterNode();
        }
        return status;
    }

    public int getStatus() {
        return status;
    }

    public long getCalls() {
        return calls;
    }

    public int getDepth() {
        return depth;
    }

    public int resultNat() {
        return hasResult(NAT) ? (int) currentValue : -1;
    }

    public int resultLength() {
        return hasResult(LIST) ? lengthOf(currentValue) : -1;
    }

    public int resultElem(int i) {
        if (!hasResult(LIST) || i < 0 || i >= lengthOf(currentValue)) {
            return -1;
        }
        return (int) ((currentValue >>> (PLACE_BITS * (i + 1))) & PLACE_MASK);
    }

    private static int clamp(int value, int low, int high) {
        if (value < low) {
            return low;
        }
        return value > high ? high : value;
    }

    private void resetCheckAndRun() {
        code = CODE_NOT_COMPILED;
        faultFunction = -1;
        bound = 0;
        resetRun();
    }

    private void resetRun() {
        status = ST_IDLE;
        calls = 0;
        depth = 0;
    }

    // ---- the program ----

    private int bodyEnd(int f) {
        return f + 1 < functionCount ? bodyStarts[f + 1] : nodeCount;
    }

    private int paramType(int f, int i) {
        return ((listMasks[f] >> i) & 1) == 1 ? LIST : NAT;
    }

    private int arityOf(int n) {
        switch (nodeKinds[n]) {
            case K_SUCC:
                return 1;
            case K_CONS:
                return 2;
            case K_CALL:
                return isFunction(nodeArgs[n]) ? paramCounts[nodeArgs[n]] : 0;
            case K_CASE_NAT:
            case K_CASE_LIST:
                return 3;
            default:
                return 0;
        }
    }

    private boolean isFunction(int g) {
        return g >= 0 && g < functionCount;
    }

    // ---- the four phases ----

    private void checkFunctions(int phase) {
        for (int f = 0; f < functionCount && code == CODE_OK; f++) {
            switch (phase) {
                case PHASE_SHAPE:
                    code = checkShape(f);
                    break;
                case PHASE_NAMES:
                    layOutTree(f);
                    layOutScopes(f);
                    code = checkNames(f);
                    break;
                case PHASE_TYPES:
                    code = checkTypes(f);
                    break;
                default:
                    code = checkDescent(f);
                    break;
            }
            faultFunction = code == CODE_OK ? -1 : f;
        }
    }

    private int checkShape(int f) {
        int end = bodyEnd(f);
        int need = 1;
        for (int n = bodyStarts[f]; n < end; n++) {
            if (need == 0) {
                return CODE_SYNTAX;
            }
            need = need - 1 + arityOf(n);
        }
        return need == 0 ? CODE_OK : CODE_SYNTAX;
    }

    private void layOutTree(int f) {
        int start = bodyStarts[f];
        int end = bodyEnd(f);
        parents[start] = NONE;
        childIndexes[start] = 0;
        // Backwards, so that the ends of a node's children are known before its own.
        for (int n = end - 1; n >= start; n--) {
            int arity = arityOf(n);
            int next = n + 1;
            for (int c = 0; c < arity && next < end; c++) {
                parents[next] = n;
                childIndexes[next] = c;
                next = subtreeEnds[next];
            }
            subtreeEnds[n] = next;
        }
    }

    private void layOutScopes(int f) {
        int start = bodyStarts[f];
        int end = bodyEnd(f);
        scopeSizes[start] = paramCounts[f];
        for (int n = start + 1; n < end; n++) {
            int binder = binderAt(n);
            int opened = 0;
            if (binder != NONE) {
                opened = nodeKinds[binder] == K_CASE_LIST ? 2 : 1;
            }
            scopeSizes[n] = scopeSizes[parents[n]] + opened;
        }
    }

    /** The CASE whose variables come into scope just at node n, or NONE. */
    private int binderAt(int n) {
        int parent = parents[n];
        if (parent == NONE || childIndexes[n] != 2) {
            return NONE;
        }
        int kind = nodeKinds[parent];
        return kind == K_CASE_NAT || kind == K_CASE_LIST ? parent : NONE;
    }

    private int checkNames(int f) {
        int end = bodyEnd(f);
        for (int n = bodyStarts[f]; n < end; n++) {
            int arg = nodeArgs[n];
            if (nodeKinds[n] == K_VAR && (arg < 0 || arg >= scopeSizes[n])) {
                return CODE_SCOPE;
            }
            if (nodeKinds[n] == K_CALL && (arg < 0 || arg > f)) {
                return CODE_CALL;
            }
        }
        return CODE_OK;
    }

    private int checkTypes(int f) {
        for (int i = 0; i < paramCounts[f]; i++) {
            levelTypes[i] = paramType(f, i);
        }
        int end = bodyEnd(f);
        for (int n = bodyStarts[f]; n < end; n++) {
            bindTypes(n);
            expectedTypes[n] = expectedType(f, n);
            if (ownType(n) != expectedTypes[n]) {
                return CODE_TYPE;
            }
        }
        return CODE_OK;
    }

    // Bound only on the way into child2: the CASEs inside child0 and child1 use the same levels.
    private void bindTypes(int n) {
        int binder = binderAt(n);
        if (binder == NONE) {
            return;
        }
        int level = scopeSizes[binder];
        levelTypes[level] = NAT;
        if (nodeKinds[binder] == K_CASE_LIST) {
            levelTypes[level + 1] = LIST;
        }
    }

    private int expectedType(int f, int n) {
        int parent = parents[n];
        if (parent == NONE) {
            return resultTypes[f];
        }
        int child = childIndexes[n];
        switch (nodeKinds[parent]) {
            case K_CONS:
                return child == 0 ? NAT : LIST;
            case K_CALL:
                return paramType(nodeArgs[parent], child);
            case K_CASE_NAT:
                return child == 0 ? NAT : expectedTypes[parent];
            case K_CASE_LIST:
                return child == 0 ? LIST : expectedTypes[parent];
            default:
                return NAT;
        }
    }

    private int ownType(int n) {
        switch (nodeKinds[n]) {
            case K_VAR:
                return levelTypes[nodeArgs[n]];
            case K_ZERO:
            case K_SUCC:
                return NAT;
            case K_NIL:
            case K_CONS:
                return LIST;
            case K_CALL:
                return resultTypes[nodeArgs[n]];
            default:
                return expectedTypes[n];
        }
    }

    private int checkDescent(int f) {
        for (int i = 0; i < paramCounts[f]; i++) {
            levelParams[i] = i;
            levelDrops[i] = 0;
        }
        int end = bodyEnd(f);
        for (int n = bodyStarts[f]; n < end; n++) {
            bindFacts(n);
            boolean selfCall = nodeKinds[n] == K_CALL && nodeArgs[n] == f;
            if (selfCall && !descends(f, n)) {
                return CODE_DESCENT;
            }
        }
        return CODE_OK;
    }

    private void bindFacts(int n) {
        int binder = binderAt(n);
        if (binder == NONE) {
            return;
        }
        int level = scopeSizes[binder];
        if (nodeKinds[binder] == K_CASE_LIST) {
            levelParams[level] = NONE;
            level++;
        }
        findFact(binder + 1);
        levelParams[level] = foundParam;
        levelDrops[level] = foundDrop + 1;
    }

    // The fact stands in two fields, since a method answers only one number.
    private void findFact(int n) {
        int at = n;
        int grown = 0;
        for (int i = 0; i < MAX_NODES && (nodeKinds[at] == K_SUCC || nodeKinds[at] == K_CONS); i++) {
            at = nodeKinds[at] == K_SUCC ? at + 1 : subtreeEnds[at + 1];
            grown++;
        }
        foundParam = NONE;
        foundDrop = 0;
        if (nodeKinds[at] == K_VAR) {
            foundParam = levelParams[nodeArgs[at]];
            foundDrop = levelDrops[nodeArgs[at]] - grown;
        }
    }

    private boolean descends(int f, int call) {
        int child = call + 1;
        for (int i = 0; i < paramCounts[f]; i++) {
            findFact(child);
            if (foundParam != i || foundDrop < 0) {
                return false;
            }
            if (foundDrop > 0) {
                return true;
            }
            child = subtreeEnds[child];
        }
        return false;
    }

    // ---- the bound ----

    // Cutting every number down to BOUND_CAP on the way loses nothing: they only ever grow,
    // by sums and by factors of 1 or more, so what has reached the cap stays there. (A factor
    // of 0 drops its whole term, cut or not.)
    private long activationBound() {
        for (int f = 0; f < functionCount; f++) {
            totals[f] = totalOf(f);
        }
        return totals[functionCount - 1];
    }

    private long totalOf(int f) {
        long each = 1;
        for (int g = 0; g < f; g++) {
            int callsToG = countCalls(f, g);
            long inThem = cappedProduct(totals[g], callsToG);
            each = cappedSum(each, inThem);
        }
        int selfCalls = countCalls(f, f);
        int states = statesOf(f);
        long activations = powerSum(selfCalls, states);
        return cappedProduct(activations, each);
    }

    private int countCalls(int f, int g) {
        int end = bodyEnd(f);
        int count = 0;
        for (int n = bodyStarts[f]; n < end; n++) {
            if (nodeKinds[n] == K_CALL && nodeArgs[n] == g) {
                count++;
            }
        }
        return count;
    }

    private int statesOf(int f) {
        int states = 1;
        for (int i = 0; i < paramCounts[f]; i++) {
            states = states * (sizeCap + 1);
        }
        return states;
    }

    private static long powerSum(int base, int terms) {
        long sum = 0;
        long power = 1;
        for (int i = 0; i < terms; i++) {
            sum = cappedSum(sum, power);
            power = cappedProduct(power, base);
        }
        return sum;
    }

    private static long cappedSum(long a, long b) {
        return a > BOUND_CAP - b ? BOUND_CAP : a + b;
    }

    // By a division, since the product of two numbers of the cap's size is more than a long holds.
    private static long cappedProduct(long a, long b) {
        if (b == 0) {
            return 0;
        }
        return a > BOUND_CAP / b ? BOUND_CAP : a * b;
    }

    // ---- inputs ----

    private boolean inputNat(int slot, int value) {
        if (value < 0 || value > sizeCap) {
            return false;
        }
        slotTypes[slot] = NAT;
        slotValues[slot] = value;
        return true;
    }

    private boolean inputCons(int slot, int value) {
        if (slotTypes[slot] != LIST || value < 0 || value > sizeCap) {
            return false;
        }
        if (lengthOf(slotValues[slot]) == sizeCap) {
            return false;
        }
        slotValues[slot] = cons(value, slotValues[slot]);
        return true;
    }

    private boolean inputsFit(int f) {
        for (int i = 0; i < paramCounts[f]; i++) {
            if (slotTypes[i] != paramType(f, i)) {
                return false;
            }
        }
        return true;
    }

    // ---- lists ----

    private static int lengthOf(long list) {
        return (int) (list & PLACE_MASK);
    }

    private static long cons(long head, long tail) {
        long elements = (tail & ~PLACE_MASK) | head;
        return (elements << PLACE_BITS) | (lengthOf(tail) + 1);
    }

    private static long headOf(long list) {
        return (list >>> PLACE_BITS) & PLACE_MASK;
    }

    private static long tailOf(long list) {
        long elements = (list >>> PLACE_BITS) & ~PLACE_MASK;
        return elements | (lengthOf(list) - 1);
    }

    // ---- the machine: each step answers whether evaluation goes on ----

    private boolean endRun(int endStatus) {
        status = endStatus;
        return false;
    }

    private boolean beginActivation() {
        if (calls == fuelLimit) {
            return endRun(ST_OUT_OF_FUEL);
        }
        if (depth == MAX_DEPTH) {
            return endRun(ST_TOO_DEEP);
        }
        if (begun == beginLimit) {
            return false;
        }
        int levelBase = depth * MAX_LEVELS;
        for (int i = 0; i < paramCounts[waitingFunction]; i++) {
            levelValues[levelBase + i] = waitingArgs[i];
        }
        callNodes[depth] = currentNode;
        calls++;
        depth++;
        begun++;
        return goTo(bodyStarts[waitingFunction]);
    }

    private boolean finishActivation() {
        depth--;
        if (depth == 0) {
            return endRun(ST_DONE);
        }
        return finishNode(callNodes[depth], currentValue);
    }

    private boolean goTo(int n) {
        currentNode = n;
        valueKnown = false;
        return true;
    }

    private boolean finishNode(int n, long value) {
        currentNode = n;
        currentValue = value;
        valueKnown = true;
        return true;
    }

    private boolean enterNode() {
        int levelBase = (depth - 1) * MAX_LEVELS;
        switch (nodeKinds[currentNode]) {
            case K_VAR:
                return finishNode(currentNode, levelValues[levelBase + nodeArgs[currentNode]]);
            case K_ZERO:
                return finishNode(currentNode, 0L);
            case K_NIL:
                return finishNode(currentNode, EMPTY_LIST);
            default:
                return goTo(currentNode + 1);
        }
    }

    private boolean handValueUp() {
        int parent = parents[currentNode];
        if (parent == NONE) {
            return finishActivation();
        }
        switch (nodeKinds[parent]) {
            case K_SUCC:
                return handToSucc(parent);
            case K_CONS:
                return handToCons(parent);
            case K_CALL:
                return handToCall(parent);
            default:
                return handToCase(parent);
        }
    }

    private boolean handToSucc(int parent) {
        if (currentValue == sizeCap) {
            return endRun(ST_OVERFLOW);
        }
        return finishNode(parent, currentValue + 1);
    }

    private boolean handToCons(int parent) {
        int nodeBase = (depth - 1) * MAX_NODES;
        if (childIndexes[currentNode] == 0) {
            nodeValues[nodeBase + currentNode] = currentValue;
            return goTo(subtreeEnds[currentNode]);
        }
        if (lengthOf(currentValue) == sizeCap) {
            return endRun(ST_OVERFLOW);
        }
        long list = cons(nodeValues[nodeBase + parent + 1], currentValue);
        return finishNode(parent, list);
    }

    private boolean handToCall(int parent) {
        int nodeBase = (depth - 1) * MAX_NODES;
        int callee = nodeArgs[parent];
        nodeValues[nodeBase + currentNode] = currentValue;
        if (childIndexes[currentNode] + 1 < paramCounts[callee]) {
            return goTo(subtreeEnds[currentNode]);
        }
        int child = parent + 1;
        for (int i = 0; i < paramCounts[callee]; i++) {
            waitingArgs[i] = nodeValues[nodeBase + child];
            child = subtreeEnds[child];
        }
        waitingFunction = callee;
        currentNode = parent;
        return beginActivation();
    }

    private boolean handToCase(int parent) {
        if (childIndexes[currentNode] != 0) {
            return finishNode(parent, currentValue);
        }
        int child1 = subtreeEnds[currentNode];
        boolean isList = nodeKinds[parent] == K_CASE_LIST;
        int size = isList ? lengthOf(currentValue) : (int) currentValue;
        if (size == 0) {
            return goTo(child1);
        }
        int cell = (depth - 1) * MAX_LEVELS + scopeSizes[parent];
        if (isList) {
            levelValues[cell] = headOf(currentValue);
            levelValues[cell + 1] = tailOf(currentValue);
        } else {
            levelValues[cell] = currentValue - 1;
        }
        return goTo(subtreeEnds[child1]);
    }

    private boolean hasResult(int type) {
        return status == ST_DONE && resultTypes[functionCount - 1] == type;
    }
}
