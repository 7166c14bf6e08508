/**
 * A workshop for a small language with functions as values: types are inferred, functions that
 * work for many types are made anew for each of them, and what is made is run on plain words.
 */
public final class MonoShop {
    public static final int OK = 0, SHAPE = 1, UNBOUND = 2, TYPE = 3, LARGE = 4, LONG = 5, DEPTH = 6, FULL = 7, BAD = -1;

    private static final int INT = 0, TRUE = 1, FALSE = 2, VAR = 3, CALL = 4, PAIR = 5, FIRST = 6, SECOND = 7, NIL = 8,
            CONS = 9, CASE = 10, IF = 11, ADD = 12, LESS = 13, LET = 14, LAM = 15, APP = 16;

    // LINK is no code: a node of that kind is the same type as the node to its left.
    private static final int INT_TYPE = 0, BOOL_TYPE = 1, PAIR_TYPE = 2, LIST_TYPE = 3, ARROW_TYPE = 4, LINK = 5,
            VARIABLE = 10;

    private static final int NONE = -1;
    private static final int FUNCTIONS = 5;
    private static final int MOST_PARAMETERS = 2;
    private static final int BODY = 24;
    private static final int MOST_BOUND = 10;
    private static final int MOST_CODES = 14;
    private static final int MOST_INSTANCES = 12;
    private static final int MOST_STEPS = 200;
    private static final int MOST_DEPTH = 20;
    private static final int MOST_CONSES = 200;
    private static final int MOST_CLOSURES = 40;
    private static final int MOST_WRITTEN = 400;
    private static final long NOTHING = 4294967296L;

    // Slots of tokens: the functions, the copies of them that the latest make kept, the draft.
    private static final int MADE = FUNCTIONS;
    private static final int DRAFT = MADE + FUNCTIONS;
    private static final int SLOTS = DRAFT + 1;
    private static final int TOKENS = SLOTS * BODY;

    // Rows of codes: the functions' types, then the instances'; the last row is for one that may turn out to be known.
    private static final int FIRST_INSTANCE = FUNCTIONS;
    private static final int ROWS = FIRST_INSTANCE + MOST_INSTANCES + 1;
    private static final int ROW = (MOST_PARAMETERS + 1) * MOST_CODES;
    private static final int CODES = ROWS * ROW;

    // Nodes of types: one for each token, two for each token that may bind, the parameters, INT, BOOL, then new ones.
    private static final int BINDER_NODES = BODY;
    private static final int PARAMETER_NODES = BINDER_NODES + 2 * BODY;
    private static final int INT_NODE = PARAMETER_NODES + MOST_PARAMETERS;
    private static final int BOOL_NODE = INT_NODE + 1;
    private static final int FIXED_NODES = BOOL_NODE + 1;
    // A token's rule needs at most a row of new nodes, and an instance one row more.
    private static final int NODES = FIXED_NODES + (BODY + 1) * ROW;
    // Every equation that brings forth others joins two nodes, so that there are fewer of these than nodes.
    private static final int EQUATIONS = NODES + BODY;

    // A run goes through one body for each step and one before them, and through each token of it once at most.
    private static final int ACTIVE = MOST_DEPTH + 1;
    private static final int STACK = ACTIVE * (BODY + 1);
    private static final int CELLS = (MOST_STEPS + 1) * BODY + 1;
    private static final int BOUND_WORDS = ACTIVE * MOST_BOUND;
    private static final int CLOSURE_WORDS = MOST_CLOSURES * MOST_BOUND;
    // Far above the turns that any loop needs that is bounded by it.
    private static final int MANY = 1000000;
    // Cells count from 1 on.
    private static final int EMPTY = 0;

    private final int[] kinds = new int[TOKENS];
    private final int[] values = new int[TOKENS];
    private final int[] spans = new int[TOKENS];
    private final int[] bounds = new int[TOKENS];
    private final int[] binders = new int[TOKENS];
    // A slot of length 0 has no body.
    private final int[] lengths = new int[SLOTS];
    private final int[] parameterCounts = new int[SLOTS];
    private int saidPlace;

    private final int[] typeCodes = new int[CODES];
    private final int[] typeLengths = new int[ROWS];
    private final int[] instanceFunctions = new int[MOST_INSTANCES];
    private int instanceCount;

    private final int[] nodeKinds = new int[NODES];
    private final int[] nodeLefts = new int[NODES];
    private final int[] nodeRights = new int[NODES];
    private final int[] nodeSizes = new int[NODES];
    private int nodeCount;
    private final int[] equationLefts = new int[EQUATIONS];
    private final int[] equationRights = new int[EQUATIONS];
    private int equationCount;

    // Used in turn by the writing of types, by runs and by the writing of values.
    private final int[] stackLefts = new int[STACK];
    private final int[] stackRights = new int[STACK];
    private int stackCount;

    private final int[] words = new int[STACK];
    private int wordCount;
    private final int[] boundWords = new int[BOUND_WORDS];
    private int depth;
    private final int[] cellFirsts = new int[CELLS];
    private final int[] cellSeconds = new int[CELLS];
    private int cellCount;
    private int consCount;
    private final int[] closureTokens = new int[MOST_CLOSURES];
    private final int[] closureWords = new int[CLOSURE_WORDS];
    private int closureCount;
    private int stepCount;
    private int runAnswer;
    private final int[] written = new int[MOST_WRITTEN];
    private int writtenCount;

    public MonoShop() {
        saidPlace = NONE;
    }

    public boolean token(int kind, int value) {
        int length = lengths[DRAFT];
        if (kind < INT || kind > APP || length >= BODY) {
            return false;
        }
        if (kind == VAR && (value < 0 || value >= MOST_BOUND)) {
            return false;
        }
        if (kind == CALL && (value < 0 || value >= FUNCTIONS)) {
            return false;
        }
        kinds[DRAFT * BODY + length] = kind;
        values[DRAFT * BODY + length] = value;
        lengths[DRAFT] = length + 1;
        return true;
    }

    public int define(int f, int parameters) {
        if (f < 0 || f >= FUNCTIONS || parameters < 0 || parameters > MOST_PARAMETERS) {
            return BAD;
        }
        dropBody(f);
        takeDraft(f, parameters);
        int answer = SHAPE;
        saidPlace = firstMisshapen(f);
        if (saidPlace == NONE) {
            measureSpans(f);
            markScopes(f);
            answer = UNBOUND;
            saidPlace = firstUnbound(f);
        }
        if (saidPlace == NONE) {
            answer = TYPE;
            saidPlace = firstIllTyped(f, NONE);
        }
        if (saidPlace == NONE) {
            answer = hasLargeType() ? LARGE : OK;
        }
        if (answer == OK) {
            writeOwnType(f);
        } else {
            lengths[f] = 0;
        }
        return answer;
    }

    public int place() {
        return saidPlace;
    }

    public int type(int f, int k) {
        if (f < 0 || f >= FUNCTIONS || lengths[f] == 0 || k < 0 || k >= typeLengths[f]) {
            return NONE;
        }
        return typeCodes[f * ROW + k];
    }

    public int make(int f) {
        if (f < 0 || f >= FUNCTIONS || lengths[f] == 0 || parameterCounts[f] != 0) {
            return BAD;
        }
        beginInstances(f);
        boolean fits = true;
        for (int i = 0; i < MOST_INSTANCES && i < instanceCount && fits; i++) {
            int g = instanceFunctions[i];
            firstIllTyped(g, FIRST_INSTANCE + i);
            fits = !hasLargeType() && addCalledInstances(g);
        }
        if (!fits) {
            instanceCount = 0;
            return LARGE;
        }
        keepBodies();
        return OK;
    }

    public int instances() {
        return instanceCount;
    }

    public int instance(int i, int k) {
        if (i < 0 || i >= instanceCount || k < 0 || k > typeLengths[FIRST_INSTANCE + i]) {
            return NONE;
        }
        return k == 0 ? instanceFunctions[i] : typeCodes[(FIRST_INSTANCE + i) * ROW + k - 1];
    }

    public int run() {
        clearRun();
        if (instanceCount == 0) {
            return BAD;
        }
        int at = (MADE + instanceFunctions[0]) * BODY;
        boolean going = true;
        for (int turn = 0; turn < MANY && going; turn++) {
            at = at == NONE ? goOn() : begin(at);
            going = runAnswer == OK && (at != NONE || stackCount > 0);
        }
        if (runAnswer == OK) {
            writeValue();
        }
        return runAnswer;
    }

    public int steps() {
        return stepCount;
    }

    public long value(int k) {
        return k < 0 || k >= writtenCount ? NOTHING : (long) written[k];
    }

    // ---- Bodies ----

    private void dropBody(int f) {
        lengths[f] = 0;
        // A loss reaches one function more with each round at least, or no more of them.
        for (int round = 0; round < FUNCTIONS; round++) {
            for (int g = 0; g < FUNCTIONS; g++) {
                if (callsMissing(g)) {
                    lengths[g] = 0;
                }
            }
        }
    }

    private boolean callsMissing(int g) {
        boolean missing = false;
        for (int at = g * BODY; at < g * BODY + lengths[g]; at++) {
            missing = missing || isMissingCall(at);
        }
        return missing;
    }

    private boolean isMissingCall(int at) {
        return kinds[at] == CALL && lengths[values[at]] == 0;
    }

    /** The body counts as there while it is looked at, so that its calls of itself need no care of their own. */
    private void takeDraft(int f, int parameters) {
        for (int t = 0; t < lengths[DRAFT]; t++) {
            kinds[f * BODY + t] = kinds[DRAFT * BODY + t];
            values[f * BODY + t] = values[DRAFT * BODY + t];
        }
        lengths[f] = lengths[DRAFT];
        parameterCounts[f] = parameters;
        lengths[DRAFT] = 0;
    }

    private int operandCount(int at) {
        switch (kinds[at]) {
            case FIRST:
            case SECOND:
            case LAM:
                return 1;
            case PAIR:
            case CONS:
            case ADD:
            case LESS:
            case LET:
            case APP:
                return 2;
            case CASE:
            case IF:
                return 3;
            case CALL:
                return lengths[values[at]] == 0 ? 0 : parameterCounts[values[at]];
            default:
                return 0;
        }
    }

    private int boundBy(int kind) {
        return kind == CASE ? 2 : kind == LET || kind == LAM ? 1 : 0;
    }

    private int operandAt(int at, int j) {
        int operand = at + 1;
        for (int i = 0; i < j; i++) {
            operand += spans[operand];
        }
        return operand;
    }

    private int firstMisshapen(int f) {
        int awaited = 1;
        for (int t = 0; t < lengths[f]; t++) {
            if (awaited == 0) {
                return t;
            }
            awaited += operandCount(f * BODY + t) - 1;
        }
        return awaited == 0 ? NONE : lengths[f];
    }

    /** Backwards, so that the spans of the operands are known before. */
    private void measureSpans(int f) {
        for (int t = lengths[f] - 1; t >= 0; t--) {
            int at = f * BODY + t;
            int operands = operandCount(at);
            int behind = operandAt(at, operands);
            spans[at] = behind - at;
        }
    }

    private void markScopes(int f) {
        bounds[f * BODY] = parameterCounts[f];
        binders[f * BODY] = NONE;
        for (int t = 0; t < lengths[f]; t++) {
            int at = f * BODY + t;
            int operands = operandCount(at);
            int opened = boundBy(kinds[at]);
            int operand = at + 1;
            for (int j = 0; j < operands; j++) {
                // The last operand of a binder is the one that sees what it binds.
                boolean inside = opened > 0 && j == operands - 1;
                bounds[operand] = inside ? bounds[at] + opened : bounds[at];
                binders[operand] = inside ? t : binders[at];
                operand += spans[operand];
            }
        }
    }

    private int firstUnbound(int f) {
        for (int t = 0; t < lengths[f]; t++) {
            int at = f * BODY + t;
            int opened = boundBy(kinds[at]);
            boolean unknown = kinds[at] == VAR && values[at] >= bounds[at];
            boolean crowded = opened > 0 && bounds[at] + opened > MOST_BOUND;
            if (unknown || crowded || isMissingCall(at)) {
                return t;
            }
        }
        return NONE;
    }

    /** What is made stays, whatever is defined: it runs on copies, whose calls go to copies. */
    private void keepBodies() {
        for (int f = 0; f < FUNCTIONS; f++) {
            lengths[MADE + f] = lengths[f];
            parameterCounts[MADE + f] = parameterCounts[f];
            for (int t = 0; t < lengths[f]; t++) {
                int from = f * BODY + t;
                int to = (MADE + f) * BODY + t;
                kinds[to] = kinds[from];
                values[to] = kinds[from] == CALL ? MADE + values[from] : values[from];
                spans[to] = spans[from];
                bounds[to] = bounds[from];
            }
        }
    }

    // ---- Typing ----

    /** Types the body of f, for the types in the row if there is one; answers the first token whose rule can't hold. */
    private int firstIllTyped(int f, int row) {
        clearNodes();
        if (row != NONE) {
            stateInstance(f, row);
        }
        for (int t = 0; t < lengths[f]; t++) {
            if (kinds[f * BODY + t] == CALL) {
                stateCall(f, t);
            } else {
                stateRule(f, t);
            }
            boolean holds = solve() && measureNodes();
            if (!holds) {
                return t;
            }
        }
        return NONE;
    }

    private void clearNodes() {
        for (int n = 0; n < FIXED_NODES; n++) {
            nodeKinds[n] = VARIABLE;
            nodeLefts[n] = NONE;
        }
        nodeKinds[INT_NODE] = INT_TYPE;
        nodeKinds[BOOL_NODE] = BOOL_TYPE;
        nodeCount = FIXED_NODES;
        equationCount = 0;
    }

    private int newNode(int kind, int left, int right) {
        nodeKinds[nodeCount] = kind;
        nodeLefts[nodeCount] = left;
        nodeRights[nodeCount] = right;
        nodeCount++;
        return nodeCount - 1;
    }

    private void equate(int left, int right) {
        equationLefts[equationCount] = left;
        equationRights[equationCount] = right;
        equationCount++;
    }

    private boolean hasLeft(int kind) {
        return kind == LIST_TYPE || hasRight(kind);
    }

    private boolean hasRight(int kind) {
        return kind == PAIR_TYPE || kind == ARROW_TYPE;
    }

    private int rootOf(int node) {
        int root = node;
        for (int i = 0; i < NODES && nodeKinds[root] == LINK; i++) {
            root = nodeLefts[root];
        }
        return root;
    }

    private void stateInstance(int f, int row) {
        int typed = loadRow(row);
        for (int p = 0; p < parameterCounts[f]; p++) {
            equate(PARAMETER_NODES + p, typed);
            typed += nodeSizes[typed];
        }
        equate(0, typed);
    }

    private void stateCall(int f, int t) {
        int g = values[f * BODY + t];
        // The types of the function itself are still being found: those of its parameters and of its first token.
        int typed = g == f ? PARAMETER_NODES : loadRow(g);
        int operand = t + 1;
        for (int j = 0; j < parameterCounts[g]; j++) {
            equate(operand, typed);
            operand += spans[f * BODY + operand];
            typed += g == f ? 1 : nodeSizes[typed];
        }
        equate(t, g == f ? 0 : typed);
    }

    /** Answers the node of the row's first code; the others' follow it. A node's size tells where the next type begins. */
    private int loadRow(int row) {
        int base = nodeCount;
        for (int k = typeLengths[row] - 1; k >= 0; k--) {
            int node = base + k;
            int code = typeCodes[row * ROW + k];
            int size = hasLeft(code) ? 1 + nodeSizes[node + 1] : 1;
            nodeKinds[node] = code;
            nodeLefts[node] = node + 1;
            nodeRights[node] = node + size;
            if (code >= VARIABLE) {
                int first = base + firstWithCode(row, code);
                nodeKinds[node] = first == node ? VARIABLE : LINK;
                nodeLefts[node] = first == node ? NONE : first;
            }
            nodeSizes[node] = hasRight(code) ? size + nodeSizes[node + size] : size;
        }
        nodeCount = base + typeLengths[row];
        return base;
    }

    private int firstWithCode(int row, int code) {
        int first = 0;
        for (int k = typeLengths[row] - 1; k >= 0; k--) {
            first = typeCodes[row * ROW + k] == code ? k : first;
        }
        return first;
    }

    private void stateRule(int f, int t) {
        int at = f * BODY + t;
        int operands = operandCount(at);
        if (operands == 0) {
            stateLeaf(f, t);
        } else if (operands == 1) {
            stateOne(kinds[at], t);
        } else {
            int second = operandAt(at, 1) - f * BODY;
            if (operands == 2) {
                stateTwo(kinds[at], t, second);
            } else {
                int third = second + spans[f * BODY + second];
                stateThree(kinds[at], t, second, third);
            }
        }
    }

    private void stateLeaf(int f, int t) {
        int kind = kinds[f * BODY + t];
        if (kind == INT) {
            equate(t, INT_NODE);
        } else if (kind == VAR) {
            int variable = variableNode(f, t);
            equate(t, variable);
        } else if (kind == NIL) {
            int element = newNode(VARIABLE, NONE, NONE);
            int list = newNode(LIST_TYPE, element, NONE);
            equate(t, list);
        } else {
            equate(t, BOOL_NODE);
        }
    }

    private void stateOne(int kind, int t) {
        int first = t + 1;
        if (kind == LAM) {
            int arrow = newNode(ARROW_TYPE, BINDER_NODES + 2 * t, first);
            equate(t, arrow);
        } else {
            int other = newNode(VARIABLE, NONE, NONE);
            int pair = newNode(PAIR_TYPE, kind == FIRST ? t : other, kind == FIRST ? other : t);
            equate(first, pair);
        }
    }

    private void stateTwo(int kind, int t, int second) {
        int first = t + 1;
        if (kind == PAIR) {
            int pair = newNode(PAIR_TYPE, first, second);
            equate(t, pair);
        } else if (kind == CONS) {
            int list = newNode(LIST_TYPE, first, NONE);
            equate(second, list);
            equate(t, list);
        } else if (kind == LET) {
            equate(BINDER_NODES + 2 * t, first);
            equate(t, second);
        } else if (kind == APP) {
            int arrow = newNode(ARROW_TYPE, second, t);
            equate(first, arrow);
        } else {
            equate(first, INT_NODE);
            equate(second, INT_NODE);
            equate(t, kind == ADD ? INT_NODE : BOOL_NODE);
        }
    }

    private void stateThree(int kind, int t, int second, int third) {
        int first = t + 1;
        if (kind == CASE) {
            int head = BINDER_NODES + 2 * t;
            int list = newNode(LIST_TYPE, head, NONE);
            equate(first, list);
            equate(head + 1, list);
        } else {
            equate(first, BOOL_NODE);
        }
        equate(second, t);
        equate(third, t);
    }

    private int variableNode(int f, int t) {
        int k = values[f * BODY + t];
        int node = PARAMETER_NODES + k;
        int binder = binders[f * BODY + t];
        for (int i = 0; i < BODY && binder != NONE; i++) {
            int below = bounds[f * BODY + binder];
            if (k >= below) {
                node = BINDER_NODES + 2 * binder + k - below;
                break;
            }
            binder = binders[f * BODY + binder];
        }
        return node;
    }

    private boolean solve() {
        boolean holds = true;
        for (int turn = 0; turn < MANY && equationCount > 0; turn++) {
            equationCount--;
            int left = rootOf(equationLefts[equationCount]);
            int right = rootOf(equationRights[equationCount]);
            if (left != right) {
                holds = join(left, right) && holds;
            }
        }
        return holds;
    }

    /** Whether a type came to hold itself is not looked at here: measureNodes finds that out. */
    private boolean join(int left, int right) {
        int kind = nodeKinds[left];
        if (kind == VARIABLE || nodeKinds[right] == VARIABLE) {
            int joined = kind == VARIABLE ? left : right;
            nodeKinds[joined] = LINK;
            nodeLefts[joined] = kind == VARIABLE ? right : left;
            return true;
        }
        if (kind != nodeKinds[right]) {
            return false;
        }
        if (hasLeft(kind)) {
            equate(nodeLefts[left], nodeLefts[right]);
        }
        if (hasRight(kind)) {
            equate(nodeRights[left], nodeRights[right]);
        }
        nodeKinds[left] = LINK;
        nodeLefts[left] = right;
        return true;
    }

    /** False if some type is not finite: then there are nodes that never get a size. */
    private boolean measureNodes() {
        for (int n = 0; n < nodeCount; n++) {
            nodeSizes[n] = 0;
        }
        int measured = 0;
        int more = 1;
        for (int round = 0; round < NODES && more > 0; round++) {
            more = 0;
            // Backwards, because what is left and right of a node is mostly newer than itself.
            for (int n = nodeCount - 1; n >= 0; n--) {
                if (nodeSizes[n] == 0) {
                    nodeSizes[n] = sizeOf(n);
                    more += nodeSizes[n] > 0 ? 1 : 0;
                }
            }
            measured += more;
        }
        return measured == nodeCount;
    }

    /** How many codes, 0 if that is not known yet; what is too large is not told apart, because it may be huge. */
    private int sizeOf(int node) {
        int kind = nodeKinds[node];
        if (kind == LINK) {
            return nodeSizes[nodeLefts[node]];
        }
        if (!hasLeft(kind)) {
            return 1;
        }
        int left = nodeSizes[nodeLefts[node]];
        int right = hasRight(kind) ? nodeSizes[nodeRights[node]] : 0;
        if (left == 0 || hasRight(kind) && right == 0) {
            return 0;
        }
        return left + right >= MOST_CODES ? MOST_CODES + 1 : 1 + left + right;
    }

    private boolean hasLargeType() {
        boolean large = false;
        for (int n = 0; n < FIXED_NODES; n++) {
            large = large || nodeSizes[n] > MOST_CODES;
        }
        return large;
    }

    private void writeOwnType(int f) {
        stackCount = 0;
        push(0, NONE);
        for (int p = parameterCounts[f] - 1; p >= 0; p--) {
            push(PARAMETER_NODES + p, NONE);
        }
        writeRow(f, false);
    }

    /** Writes the types of the nodes on the stack, none of which is large; if closed, variables are written as INT. */
    private void writeRow(int row, boolean closed) {
        int variables = 0;
        int length = 0;
        for (int k = 0; k < ROW && stackCount > 0; k++) {
            stackCount--;
            int node = rootOf(stackLefts[stackCount]);
            int kind = nodeKinds[node];
            int code = closed && kind == VARIABLE ? INT_TYPE : kind;
            if (code == VARIABLE) {
                // A variable has nothing to its left, so that its number finds room there.
                if (nodeLefts[node] == NONE) {
                    nodeLefts[node] = variables;
                    variables++;
                }
                code = VARIABLE + nodeLefts[node];
            }
            if (hasRight(kind)) {
                push(nodeRights[node], NONE);
            }
            if (hasLeft(kind)) {
                push(nodeLefts[node], NONE);
            }
            typeCodes[row * ROW + k] = code;
            length = k + 1;
        }
        typeLengths[row] = length;
    }

    // ---- Making ----

    private void beginInstances(int f) {
        for (int k = 0; k < typeLengths[f]; k++) {
            int code = typeCodes[f * ROW + k];
            typeCodes[FIRST_INSTANCE * ROW + k] = code >= VARIABLE ? INT_TYPE : code;
        }
        typeLengths[FIRST_INSTANCE] = typeLengths[f];
        instanceFunctions[0] = f;
        instanceCount = 1;
    }

    /** For the calls in the body of f, as it was typed last; false if there would be too many instances. */
    private boolean addCalledInstances(int f) {
        boolean fits = true;
        for (int t = 0; t < lengths[f] && fits; t++) {
            if (kinds[f * BODY + t] == CALL) {
                writeCalledTypes(f, t);
                fits = addInstance(values[f * BODY + t]);
            }
        }
        return fits;
    }

    private void writeCalledTypes(int f, int t) {
        int at = f * BODY + t;
        stackCount = 0;
        push(t, NONE);
        for (int j = operandCount(at) - 1; j >= 0; j--) {
            int operand = operandAt(at, j) - f * BODY;
            push(operand, NONE);
        }
        writeRow(FIRST_INSTANCE + instanceCount, true);
    }

    /** The types stand in the row behind the last instance already. */
    private boolean addInstance(int g) {
        for (int i = 0; i < instanceCount; i++) {
            if (instanceFunctions[i] == g && isSameAsNewest(FIRST_INSTANCE + i)) {
                return true;
            }
        }
        if (instanceCount == MOST_INSTANCES) {
            return false;
        }
        instanceFunctions[instanceCount] = g;
        instanceCount++;
        return true;
    }

    private boolean isSameAsNewest(int row) {
        int newest = FIRST_INSTANCE + instanceCount;
        boolean same = typeLengths[row] == typeLengths[newest];
        for (int k = 0; k < typeLengths[row] && same; k++) {
            same = typeCodes[row * ROW + k] == typeCodes[newest * ROW + k];
        }
        return same;
    }

    // ---- Running ----

    private void clearRun() {
        stackCount = 0;
        wordCount = 0;
        depth = 0;
        cellCount = 1;
        consCount = 0;
        closureCount = 0;
        stepCount = 0;
        writtenCount = 0;
        runAnswer = OK;
    }

    private void push(int left, int right) {
        stackLefts[stackCount] = left;
        stackRights[stackCount] = right;
        stackCount++;
    }

    private void pushWord(int word) {
        words[wordCount] = word;
        wordCount++;
    }

    private int popWord() {
        wordCount--;
        return words[wordCount];
    }

    /** Answers the token to begin next, or NONE if this one is worked out. */
    private int begin(int at) {
        if (kinds[at] == LAM) {
            keepClosure(at);
            return NONE;
        }
        if (operandCount(at) > 0) {
            push(at, 0);
            return at + 1;
        }
        if (kinds[at] == CALL) {
            return enterFunction(at);
        }
        int word = leafWord(at);
        pushWord(word);
        return NONE;
    }

    private int leafWord(int at) {
        switch (kinds[at]) {
            case INT:
                return values[at];
            case TRUE:
                return 1;
            case VAR:
                return boundWords[depth * MOST_BOUND + values[at]];
            case NIL:
                return EMPTY;
            default:
                return 0;
        }
    }

    private void keepClosure(int at) {
        if (closureCount == MOST_CLOSURES) {
            runAnswer = FULL;
            return;
        }
        closureTokens[closureCount] = at;
        for (int k = 0; k < bounds[at]; k++) {
            closureWords[closureCount * MOST_BOUND + k] = boundWords[depth * MOST_BOUND + k];
        }
        pushWord(closureCount);
        closureCount++;
    }

    /** An operand was worked out: answers the token to begin next, or NONE if what it belongs to is worked out, too. */
    private int goOn() {
        stackCount--;
        int at = stackLefts[stackCount];
        if (at == NONE) {
            depth--;
            return NONE;
        }
        int kind = kinds[at];
        if (kind == IF || kind == CASE || kind == LET) {
            return goInside(at);
        }
        int done = stackRights[stackCount] + 1;
        if (done < operandCount(at)) {
            push(at, done);
            return operandAt(at, done);
        }
        return finish(at);
    }

    /** The operand gone to is the last one worked out, so that its word is that of the whole. */
    private int goInside(int at) {
        int word = popWord();
        int bound = depth * MOST_BOUND + bounds[at];
        int next = 1;
        if (kinds[at] == IF) {
            next = word == 0 ? 2 : 1;
        } else if (kinds[at] == LET) {
            boundWords[bound] = word;
        } else if (word != EMPTY) {
            boundWords[bound] = cellFirsts[word];
            boundWords[bound + 1] = cellSeconds[word];
            next = 2;
        }
        return operandAt(at, next);
    }

    private int finish(int at) {
        int kind = kinds[at];
        if (kind == CALL) {
            return enterFunction(at);
        }
        if (kind == APP) {
            return enterClosure();
        }
        int last = popWord();
        if (kind == FIRST || kind == SECOND) {
            pushWord(kind == FIRST ? cellFirsts[last] : cellSeconds[last]);
            return NONE;
        }
        int first = popWord();
        if (kind == ADD) {
            pushWord(first + last);
        } else if (kind == LESS) {
            pushWord(first < last ? 1 : 0);
        } else {
            keepCell(kind, first, last);
        }
        return NONE;
    }

    private void keepCell(int kind, int first, int second) {
        if (kind == CONS && consCount == MOST_CONSES) {
            runAnswer = FULL;
            return;
        }
        consCount += kind == CONS ? 1 : 0;
        cellFirsts[cellCount] = first;
        cellSeconds[cellCount] = second;
        pushWord(cellCount);
        cellCount++;
    }

    private boolean takeStep() {
        if (stepCount == MOST_STEPS) {
            runAnswer = LONG;
            return false;
        }
        stepCount++;
        if (depth == MOST_DEPTH) {
            runAnswer = DEPTH;
            return false;
        }
        depth++;
        // Tells goOn where the body that is entered now ends.
        push(NONE, NONE);
        return true;
    }

    private int enterFunction(int at) {
        int g = values[at];
        if (!takeStep()) {
            return NONE;
        }
        for (int p = parameterCounts[g] - 1; p >= 0; p--) {
            boundWords[depth * MOST_BOUND + p] = popWord();
        }
        return g * BODY;
    }

    private int enterClosure() {
        int argument = popWord();
        int closure = popWord();
        if (!takeStep()) {
            return NONE;
        }
        int at = closureTokens[closure];
        for (int k = 0; k < bounds[at]; k++) {
            boundWords[depth * MOST_BOUND + k] = closureWords[closure * MOST_BOUND + k];
        }
        boundWords[depth * MOST_BOUND + bounds[at]] = argument;
        return at + 1;
    }

    // ---- Writing out ----

    private void write(int word) {
        if (writtenCount < MOST_WRITTEN) {
            written[writtenCount] = word;
            writtenCount++;
        }
    }

    /** The stack holds words with the places of their types; the rest of a list, with its elements' place as -1 - place. */
    private void writeValue() {
        push(words[0], FIRST_INSTANCE * ROW);
        for (int turn = 0; turn < MANY && stackCount > 0 && writtenCount < MOST_WRITTEN; turn++) {
            stackCount--;
            int word = stackLefts[stackCount];
            int typed = stackRights[stackCount];
            if (typed >= 0) {
                writeWord(word, typed);
            } else if (word != EMPTY) {
                push(cellSeconds[word], typed);
                push(cellFirsts[word], -1 - typed);
            }
        }
    }

    private void writeWord(int word, int typed) {
        int code = typeCodes[typed];
        if (code == PAIR_TYPE) {
            int second = behindType(typed + 1);
            push(cellSeconds[word], second);
            push(cellFirsts[word], typed + 1);
        } else if (code == LIST_TYPE) {
            int count = countElements(word);
            write(count);
            push(word, -1 - (typed + 1));
        } else {
            write(code == ARROW_TYPE ? 0 : word);
        }
    }

    private int countElements(int list) {
        int count = 0;
        int rest = list;
        for (int i = 0; i < MOST_CONSES && rest != EMPTY; i++) {
            count++;
            rest = cellSeconds[rest];
        }
        return count;
    }

    private int behindType(int typed) {
        int behind = typed;
        int awaited = 1;
        for (int i = 0; i < MOST_CODES && awaited > 0; i++) {
            int code = typeCodes[behind];
            awaited += hasRight(code) ? 1 : hasLeft(code) ? 0 : -1;
            behind++;
        }
        return behind;
    }
}
