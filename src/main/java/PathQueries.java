/**
 * A tree of named nodes with int values, and path queries over it. README.md says how to use it.
 *
 * The tree is held as the list of its ids in document order, for then a subtree is a run of that list and a set of nodes
 * is a long whose bit r stands for the node of rank r.
 */
public final class PathQueries {
    public static final int REFUSED = -1;
    public static final int FULL = -2;

    private static final int NODES = 40;
    private static final int FEWEST_NODES = 4;
    private static final int NAMES = 8;
    private static final int ROOT = 0;
    private static final int NONE = -1;

    private static final int TOKENS = 40;
    // One place more than the tokens need: an END always stands behind the last token.
    private static final int QUERY_ROOM = TOKENS + 1;
    private static final int CELLS = TOKENS * NODES;
    private static final int BRACKETS = 3;
    private static final int PARENS = 4;
    private static final int LEVELS = BRACKETS + 1;
    private static final int GROUPS = PARENS + 1;

    private static final int END = 0;
    private static final int OPEN_BRACKET = 1;
    private static final int CLOSE_BRACKET = 2;
    private static final int OPEN_PAREN = 3;
    private static final int CLOSE_PAREN = 4;
    private static final int AND = 5;
    private static final int OR = 6;
    private static final int NOT = 7;
    private static final int POSITION = 8;
    private static final int LAST = 9;
    private static final int VALUE = 10;
    private static final int COUNT = 11;
    private static final int LESS = 12;
    private static final int EQUAL = 13;
    private static final int GREATER = 14;
    private static final int FIRST_AXIS = 20;
    private static final int LAST_AXIS = 30;
    private static final int FIRST_NAME = 40;
    private static final int ANY_NAME = 48;
    private static final int FIRST_NUMBER = 1000;
    private static final int LAST_NUMBER = 3000;
    private static final int NUMBER_ZERO = 2000;

    private static final int SELF = 0;
    private static final int CHILD = 1;
    private static final int PARENT = 2;
    private static final int DESCENDANT = 3;
    private static final int ANCESTOR = 4;
    private static final int DESCENDANT_OR_SELF = 5;
    private static final int ANCESTOR_OR_SELF = 6;
    private static final int FOLLOWING_SIBLING = 7;
    private static final int PRECEDING_SIBLING = 8;
    private static final int FOLLOWING = 9;
    private static final int PRECEDING = 10;

    // What the reading of a query has come to: which token is due, or what has just ended.
    private static final int WRONG = 0;
    private static final int AXIS_DUE = 1;
    private static final int NAME_DUE = 2;
    private static final int STEP_DONE = 3;
    private static final int OPERAND_DUE = 4;
    private static final int COMPARISON_DUE = 5;
    private static final int NUMBER_DUE = 6;
    private static final int ATOM_DONE = 7;

    // The tree: ids by rank, and what is known of each id.
    private final int limit;
    private int nodeCount = 1;
    private final int[] order = new int[NODES];
    private final int[] parentOf = new int[NODES];
    private final int[] nameOf = new int[NODES];
    private final int[] valueOf = new int[NODES];
    private final int[] moved = new int[NODES];

    // Worked out of the tree after each change of its shape: by id, then by rank.
    private final int[] rankOf = new int[NODES];
    private final int[] parentAt = new int[NODES];
    private final int[] sizeAt = new int[NODES];

    private int pendingCount = 0;
    private final int[] pending = new int[TOKENS];

    // The reading of a query, by the number of open brackets.
    private int level = 0;
    private int openParens = 0;
    private final int[] parensAt = new int[LEVELS];
    private final boolean[] countedAt = new boolean[LEVELS];

    // The query, and for its brackets and axis tokens where that which begins there ends.
    private int queryLength = 0;
    private final int[] query = new int[QUERY_ROOM];
    private final int[] closeOf = new int[TOKENS];
    private final int[] stepEnd = new int[TOKENS];
    private final int[] pathEnd = new int[TOKENS];

    // given[t * NODES + r]: what the path from the axis token t on gives from the node of rank r.
    private final long[] given = new long[CELLS];
    // The working out of a predicate, by the number of open parentheses.
    private final long[] anyOf = new long[GROUPS];
    private final long[] allOf = new long[GROUPS];
    private final boolean[] negated = new boolean[GROUPS];

    private int resultCount = 0;
    private long resultTotal = 0;
    private final int[] result = new int[NODES];

    public PathQueries(int limit) {
        int most = limit > NODES ? NODES : limit;
        this.limit = most < FEWEST_NODES ? FEWEST_NODES : most;
        parentOf[ROOT] = NONE;
        noteShape();
    }

    public int insert(int parent, int place, int name, int value) {
        if (!isNode(parent) || !isName(name) || place < 0 || place > childCount(parent)) {
            return REFUSED;
        }
        if (nodeCount >= limit) {
            return FULL;
        }
        int id = leastFreeId();
        int spot = spotFor(parent, place);
        openGap(spot, 1);
        order[spot] = id;
        parentOf[id] = parent;
        nameOf[id] = name;
        valueOf[id] = value;
        noteShape();
        return id;
    }

    public int remove(int node) {
        if (!isNode(node) || node == ROOT) {
            return REFUSED;
        }
        int spot = rankOf[node];
        int width = sizeAt[spot];
        closeGap(spot, width);
        noteShape();
        return width;
    }

    public int move(int node, int parent, int place) {
        if (!isNode(node) || node == ROOT || !isNode(parent) || isInSubtree(parent, node)) {
            return REFUSED;
        }
        int others = childCount(parent) - (parentOf[node] == parent ? 1 : 0);
        if (place < 0 || place > others) {
            return REFUSED;
        }
        int width = takeOut(node);
        // The place counts without the node, so the spot is looked for in the tree without it.
        noteShape();
        int spot = spotFor(parent, place);
        openGap(spot, width);
        for (int i = 0; i < width; i++) {
            order[spot + i] = moved[i];
        }
        parentOf[node] = parent;
        noteShape();
        return spot;
    }

    public int alter(int node, int name, int value) {
        if (!isNode(node) || !isName(name)) {
            return REFUSED;
        }
        int oldName = nameOf[node];
        nameOf[node] = name;
        valueOf[node] = value;
        return oldName;
    }

    public int parent(int node) {
        if (!isNode(node) || node == ROOT) {
            return REFUSED;
        }
        return parentOf[node];
    }

    public int child(int node, int place) {
        if (!isNode(node) || place < 0 || place >= childCount(node)) {
            return REFUSED;
        }
        return order[spotFor(node, place)];
    }

    public int rank(int node) {
        return isNode(node) ? rankOf[node] : REFUSED;
    }

    public int size(int node) {
        return isNode(node) ? sizeAt[rankOf[node]] : REFUSED;
    }

    public int value(int node) {
        return isNode(node) ? valueOf[node] : 0;
    }

    public int put(int a, int b, int c) {
        int more = (a != 0 ? 1 : 0) + (b != 0 ? 1 : 0) + (c != 0 ? 1 : 0);
        if (pendingCount + more > TOKENS) {
            return FULL;
        }
        addPending(a);
        addPending(b);
        addPending(c);
        return pendingCount;
    }

    public int compile() {
        int wrong = wrongPlace();
        if (wrong == 0) {
            takePending();
            noteEnds();
        }
        pendingCount = 0;
        return wrong;
    }

    public int select(int node) {
        if (!isNode(node) || queryLength == 0) {
            return REFUSED;
        }
        // From the last token to the first: a step rests on the paths in its predicates and on the next step of its own
        // path, and all of these stand behind it. So every path is worked out once for each node, however deep it is.
        for (int t = queryLength - 1; t >= 0; t--) {
            if (isAxisToken(query[t])) {
                for (int from = 0; from < nodeCount; from++) {
                    given[t * NODES + from] = pathFrom(t, from);
                }
            }
        }
        keepResult(given[rankOf[node]]);
        return resultCount;
    }

    public int picked(int place) {
        return place >= 0 && place < resultCount ? result[place] : REFUSED;
    }

    public long total() {
        return resultTotal;
    }

    private boolean isNode(int id) {
        return id >= 0 && id < NODES && rankOf[id] != NONE;
    }

    private boolean isName(int name) {
        return name >= 0 && name < NAMES;
    }

    private boolean isInSubtree(int node, int top) {
        int first = rankOf[top];
        return rankOf[node] >= first && rankOf[node] < first + sizeAt[first];
    }

    private int childCount(int node) {
        int children = 0;
        for (int r = 0; r < nodeCount; r++) {
            if (parentOf[order[r]] == node) {
                children++;
            }
        }
        return children;
    }

    /** The rank of child number place, or the rank behind the subtree if there are only that many children. */
    private int spotFor(int parent, int place) {
        int children = 0;
        for (int r = 0; r < nodeCount; r++) {
            if (parentOf[order[r]] == parent) {
                if (children == place) {
                    return r;
                }
                children++;
            }
        }
        return rankOf[parent] + sizeAt[rankOf[parent]];
    }

    private int leastFreeId() {
        int id = 0;
        for (int i = NODES - 1; i >= 0; i--) {
            if (rankOf[i] == NONE) {
                id = i;
            }
        }
        return id;
    }

    private void openGap(int spot, int width) {
        for (int r = nodeCount - 1; r >= spot; r--) {
            order[r + width] = order[r];
        }
        nodeCount += width;
    }

    private void closeGap(int spot, int width) {
        nodeCount -= width;
        for (int r = spot; r < nodeCount; r++) {
            order[r] = order[r + width];
        }
    }

    private int takeOut(int node) {
        int spot = rankOf[node];
        int width = sizeAt[spot];
        for (int i = 0; i < width; i++) {
            moved[i] = order[spot + i];
        }
        closeGap(spot, width);
        return width;
    }

    private void noteShape() {
        for (int id = 0; id < NODES; id++) {
            rankOf[id] = NONE;
        }
        for (int r = 0; r < nodeCount; r++) {
            rankOf[order[r]] = r;
            sizeAt[r] = 1;
        }
        parentAt[0] = NONE;
        // Backwards, so that a node's size is whole before it is added to its parent's.
        for (int r = nodeCount - 1; r > 0; r--) {
            parentAt[r] = rankOf[parentOf[order[r]]];
            sizeAt[parentAt[r]] += sizeAt[r];
        }
    }

    private void addPending(int token) {
        if (token != 0) {
            pending[pendingCount] = token;
            pendingCount++;
        }
    }

    /** What compile answers. Every state can be led on to a whole query, so the first WRONG is at the token to be told. */
    private int wrongPlace() {
        int state = AXIS_DUE;
        level = 0;
        openParens = 0;
        for (int i = 0; i < pendingCount; i++) {
            state = stateAfter(state, pending[i]);
            if (state == WRONG) {
                return i + 1;
            }
        }
        return state == STEP_DONE && level == 0 ? 0 : pendingCount + 1;
    }

    private int stateAfter(int state, int token) {
        switch (state) {
            case AXIS_DUE:
                return isAxisToken(token) ? NAME_DUE : WRONG;
            case NAME_DUE:
                return isNameToken(token) ? STEP_DONE : WRONG;
            case STEP_DONE:
                return stateAfterStep(token);
            case OPERAND_DUE:
                return stateInOperand(token);
            case COMPARISON_DUE:
                return isComparison(token) ? NUMBER_DUE : WRONG;
            case NUMBER_DUE:
                return isNumber(token) ? ATOM_DONE : WRONG;
            case ATOM_DONE:
                return stateAfterAtom(token);
            default:
                return WRONG;
        }
    }

    private int stateAfterStep(int token) {
        if (isAxisToken(token)) {
            return NAME_DUE;
        }
        if (token == OPEN_BRACKET) {
            return stateAfterOpenBracket();
        }
        if (level == 0) {
            return WRONG;
        }
        if (countedAt[level]) {
            return isComparison(token) ? NUMBER_DUE : WRONG;
        }
        return stateAfterAtom(token);
    }

    private int stateAfterOpenBracket() {
        if (level >= BRACKETS) {
            return WRONG;
        }
        level++;
        parensAt[level] = 0;
        return OPERAND_DUE;
    }

    private int stateInOperand(int token) {
        switch (token) {
            case NOT:
                return OPERAND_DUE;
            case OPEN_PAREN:
                return stateAfterOpenParen();
            case POSITION:
            case VALUE:
                return COMPARISON_DUE;
            case LAST:
                return ATOM_DONE;
            case COUNT:
                countedAt[level] = true;
                return AXIS_DUE;
            default:
                countedAt[level] = false;
                return isAxisToken(token) ? NAME_DUE : WRONG;
        }
    }

    private int stateAfterOpenParen() {
        if (openParens >= PARENS) {
            return WRONG;
        }
        openParens++;
        parensAt[level]++;
        return OPERAND_DUE;
    }

    private int stateAfterAtom(int token) {
        if (token == AND || token == OR) {
            return OPERAND_DUE;
        }
        if (token == CLOSE_PAREN && parensAt[level] > 0) {
            openParens--;
            parensAt[level]--;
            return ATOM_DONE;
        }
        if (token == CLOSE_BRACKET && parensAt[level] == 0) {
            level--;
            return STEP_DONE;
        }
        return WRONG;
    }

    private boolean isAxisToken(int token) {
        return token >= FIRST_AXIS && token <= LAST_AXIS;
    }

    private boolean isNameToken(int token) {
        return token >= FIRST_NAME && token <= ANY_NAME;
    }

    private boolean isComparison(int token) {
        return token == LESS || token == EQUAL || token == GREATER;
    }

    private boolean isNumber(int token) {
        return token >= FIRST_NUMBER && token <= LAST_NUMBER;
    }

    private void takePending() {
        queryLength = pendingCount;
        for (int t = 0; t < QUERY_ROOM; t++) {
            query[t] = t < pendingCount ? pending[t] : END;
        }
    }

    /** Backwards, since an end rests on the ends of what stands behind it. */
    private void noteEnds() {
        for (int t = queryLength - 1; t >= 0; t--) {
            if (query[t] == OPEN_BRACKET) {
                closeOf[t] = closingBracket(t);
            }
            if (isAxisToken(query[t])) {
                int end = endOfStep(t);
                stepEnd[t] = end;
                pathEnd[t] = isAxisToken(query[end]) ? pathEnd[end] : end;
            }
        }
    }

    private int closingBracket(int open) {
        int depth = 0;
        for (int t = open; t < queryLength; t++) {
            if (query[t] == OPEN_BRACKET) {
                depth++;
            } else if (query[t] == CLOSE_BRACKET) {
                depth--;
                if (depth == 0) {
                    return t;
                }
            }
        }
        return queryLength;
    }

    private int endOfStep(int axis) {
        int end = axis + 2;
        for (int t = axis + 2; t < queryLength; t++) {
            if (t == end && query[t] == OPEN_BRACKET) {
                end = closeOf[t] + 1;
            }
        }
        return end;
    }

    /** What the path from the step at t on gives from a node. */
    private long pathFrom(int t, int from) {
        boolean reverse = isReverse(query[t] - FIRST_AXIS);
        int end = stepEnd[t];
        long list = namedOnAxis(t, from);
        int open = t + 2;
        for (int i = t + 2; i < end; i++) {
            if (i == open) {
                list = filtered(open, list, reverse);
                open = closeOf[open] + 1;
            }
        }
        return isAxisToken(query[end]) ? givenFromAny(end, list) : list;
    }

    private boolean isReverse(int axis) {
        return axis == PARENT || axis == ANCESTOR || axis == ANCESTOR_OR_SELF
                || axis == PRECEDING_SIBLING || axis == PRECEDING;
    }

    private long namedOnAxis(int t, int from) {
        int axis = query[t] - FIRST_AXIS;
        int nameToken = query[t + 1];
        long list = 0;
        for (int r = 0; r < nodeCount; r++) {
            boolean named = nameToken == ANY_NAME || nameToken - FIRST_NAME == nameOf[order[r]];
            if (named && isOnAxis(axis, from, r)) {
                list |= 1L << r;
            }
        }
        return list;
    }

    /** Both nodes are ranks; the subtree of the node of rank r is the ranks r .. r + sizeAt[r] - 1. */
    private boolean isOnAxis(int axis, int from, int r) {
        boolean below = r >= from && r < from + sizeAt[from];
        boolean above = r <= from && from < r + sizeAt[r];
        switch (axis) {
            case SELF:
                return r == from;
            case CHILD:
                return parentAt[r] == from;
            case PARENT:
                return parentAt[from] == r;
            case DESCENDANT:
                return below && r != from;
            case ANCESTOR:
                return above && r != from;
            case DESCENDANT_OR_SELF:
                return below;
            case ANCESTOR_OR_SELF:
                return above;
            case FOLLOWING_SIBLING:
                return r > from && parentAt[r] == parentAt[from];
            case PRECEDING_SIBLING:
                return r < from && parentAt[r] == parentAt[from];
            case FOLLOWING:
                return r > from && !below;
            case PRECEDING:
                return r < from && !above;
            default:
                return false;
        }
    }

    private long givenFromAny(int t, long list) {
        long union = 0;
        for (int r = 0; r < nodeCount; r++) {
            if (has(list, r)) {
                union |= given[t * NODES + r];
            }
        }
        return union;
    }

    /** Those nodes of the list for which the predicate that opens there is true: worked out for the whole list at once. */
    private long filtered(int open, long list, boolean reverse) {
        int group = 0;
        beginGroup(group, list);
        int next = open + 1;
        for (int t = open + 1; t < closeOf[open]; t++) {
            // The tokens of an atom are used up with its first one.
            if (t < next) {
                continue;
            }
            int token = query[t];
            if (token == NOT) {
                negated[group] = !negated[group];
            } else if (token == OR) {
                anyOf[group] |= allOf[group];
                allOf[group] = list;
            } else if (token == OPEN_PAREN && group < PARENS) {
                group++;
                beginGroup(group, list);
            } else if (token == CLOSE_PAREN && group > 0) {
                long inner = anyOf[group] | allOf[group];
                group--;
                joinOperand(group, inner, list);
            } else if (token != AND) {
                long operand = atomNodes(t, list, reverse);
                joinOperand(group, operand, list);
                next = atomEnd(t);
            }
        }
        return anyOf[0] | allOf[0];
    }

    private void beginGroup(int group, long list) {
        anyOf[group] = 0;
        allOf[group] = list;
        negated[group] = false;
    }

    private void joinOperand(int group, long operand, long list) {
        allOf[group] &= negated[group] ? list & ~operand : operand;
        negated[group] = false;
    }

    private int atomEnd(int t) {
        switch (query[t]) {
            case POSITION:
            case VALUE:
                return t + 3;
            case LAST:
                return t + 1;
            case COUNT:
                return pathEnd[t + 1] + 2;
            default:
                return pathEnd[t];
        }
    }

    private long atomNodes(int t, long list, boolean reverse) {
        int length = bitCount(list);
        int place = 0;
        long nodes = 0;
        for (int i = 0; i < nodeCount; i++) {
            int r = reverse ? nodeCount - 1 - i : i;
            if (has(list, r)) {
                place++;
                if (atomHolds(t, r, place, length)) {
                    nodes |= 1L << r;
                }
            }
        }
        return nodes;
    }

    private boolean atomHolds(int t, int r, int place, int length) {
        switch (query[t]) {
            case POSITION:
                return compares(place, t + 1);
            case LAST:
                return place == length;
            case VALUE:
                return compares(valueOf[order[r]], t + 1);
            case COUNT:
                int nodes = bitCount(given[(t + 1) * NODES + r]);
                return compares(nodes, pathEnd[t + 1]);
            default:
                return given[t * NODES + r] != 0;
        }
    }

    /** Whether a number stands to the NUMBER of the comparison at t as that comparison says. */
    private boolean compares(int number, int t) {
        int other = query[t + 1] - NUMBER_ZERO;
        switch (query[t]) {
            case LESS:
                return number < other;
            case EQUAL:
                return number == other;
            default:
                return number > other;
        }
    }

    private boolean has(long list, int r) {
        return (list >> r & 1L) != 0;
    }

    private int bitCount(long list) {
        int bits = 0;
        for (int r = 0; r < NODES; r++) {
            bits += (int) (list >> r & 1L);
        }
        return bits;
    }

    private void keepResult(long nodes) {
        resultCount = 0;
        resultTotal = 0;
        for (int r = 0; r < nodeCount; r++) {
            if (has(nodes, r)) {
                result[resultCount] = order[r];
                resultCount++;
                resultTotal += valueOf[order[r]];
            }
        }
    }
}
