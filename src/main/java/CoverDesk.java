/**
 * Tells what small programs of blocks did: counts of edges, blocks and paths, and which edges need probes.
 * Every edge is counted itself, since probes alone would not tell the others of a run that is cut off.
 */
public final class CoverDesk {
    public static final int OK = 0, CUT = 1, NONE = -1, MANY = -2;

    private static final int MAX_BLOCKS = 12;
    private static final int MAX_EXITS = 3;
    private static final int MAX_TARGETS = MAX_BLOCKS * MAX_EXITS;
    private static final int MAX_EDGES = MAX_TARGETS + 1;
    private static final int MAX_PLACES = MAX_BLOCKS + 1;
    private static final int MAX_PATHS = 300;
    private static final int MAX_RUNS = 1000000;
    private static final int MAX_DONE = 100;
    private static final int OPS = 8;
    private static final int DUMPS = 2;

    private static final int END = 0;
    private static final int GO = 1;
    private static final int IF_LESS = 2;
    private static final int IF_ODD = 3;
    private static final int IF_ZERO = 4;
    private static final int SWITCH = 5;

    private static final int OUTSIDE = -1;
    // In arrays over places, outside stands behind all blocks.
    private static final int OUTSIDE_PLACE = MAX_BLOCKS;

    private static final int UNMET = 0;
    private static final int INSIDE = 1;
    private static final int LEFT = 2;
    // The walk looks at every exit once and goes back from every block once.
    private static final int WALK_STEPS = MAX_TARGETS + MAX_BLOCKS;

    // All counts stand in one row, so that a dump is a copy and a merge a sum.
    private static final int BLOCK_COUNTS = MAX_EDGES;
    private static final int PATH_COUNTS = BLOCK_COUNTS + MAX_BLOCKS;
    private static final int CUT_COUNT = PATH_COUNTS + MAX_PATHS;
    private static final int COUNTS = CUT_COUNT + 1;
    private static final int DUMPED_COUNTS = DUMPS * COUNTS;

    // The blocks as they are being written.
    private int blocks = 0;
    private final int[] ops = new int[MAX_BLOCKS];
    private final int[] operands = new int[MAX_BLOCKS];
    private final int[] kinds = new int[MAX_BLOCKS];
    private final int[] targets = new int[MAX_TARGETS];

    // The program that is built; without one it has no blocks and no edges.
    private int builtBlocks = 0;
    private final int[] builtOps = new int[MAX_BLOCKS];
    private final int[] builtOperands = new int[MAX_BLOCKS];
    private final int[] builtKinds = new int[MAX_BLOCKS];
    private final int[] firstEdge = new int[MAX_BLOCKS];
    private int edges = 0;
    private final int[] edgeFrom = new int[MAX_EDGES];
    private final int[] edgeExit = new int[MAX_EDGES];
    private final int[] edgeTo = new int[MAX_EDGES];
    private final int[] edgeWeight = new int[MAX_EDGES];
    private final boolean[] inTree = new boolean[MAX_EDGES];
    private final boolean[] isBack = new boolean[MAX_EDGES];

    // A path's number is its begin's first path and the pathsBefore of its edges, added.
    private int paths = 0;
    private final boolean[] beginsPaths = new boolean[MAX_BLOCKS];
    private final int[] firstPath = new int[MAX_BLOCKS];
    private final int[] pathsFrom = new int[MAX_BLOCKS];
    private final int[] pathsBefore = new int[MAX_EDGES];

    private final int[] counts = new int[COUNTS];
    private final int[] dumped = new int[DUMPED_COUNTS];
    private final boolean[] dumpKept = new boolean[DUMPS];

    // During a run its variables; afterwards what they were at its end.
    private int runX = 0;
    private int runY = 0;
    private int runDone = 0;

    // Room to work in while the tree is made and the back edges are found.
    private final boolean[] looked = new boolean[MAX_EDGES];
    private final int[] joined = new int[MAX_PLACES];
    private final int[] met = new int[MAX_BLOCKS];
    private final int[] nextExit = new int[MAX_BLOCKS];
    private final int[] way = new int[MAX_BLOCKS];

    public CoverDesk() {
    }

    public int block(int op, int a) {
        if (op < 0 || op >= OPS || blocks >= MAX_BLOCKS) {
            return NONE;
        }
        int block = blocks;
        ops[block] = op;
        operands[block] = a;
        kinds[block] = END;
        targets[block * MAX_EXITS] = OUTSIDE;
        blocks++;
        return block;
    }

    public boolean exits(int block, int kind, int first, int second, int third) {
        if (block < 0 || block >= blocks || kind < END || kind > SWITCH) {
            return false;
        }
        int used = kind == END ? 0 : exitsOfKind(kind);
        boolean fits = (used < 1 || mayBeTarget(first))
                && (used < 2 || mayBeTarget(second))
                && (used < 3 || mayBeTarget(third));
        if (!fits) {
            return false;
        }
        int at = block * MAX_EXITS;
        kinds[block] = kind;
        targets[at] = kind == END ? OUTSIDE : first;
        targets[at + 1] = second;
        targets[at + 2] = third;
        return true;
    }

    public int clear() {
        int were = blocks;
        blocks = 0;
        return were;
    }

    public int build() {
        if (blocks == 0 || !allTargetsThere()) {
            return NONE;
        }
        copyBlocks();
        listEdges();
        findBackEdges();
        numberPaths();
        makeTree();
        forgetCounts();
        runX = 0;
        runY = 0;
        runDone = 0;
        return edges;
    }

    public boolean weight(int edge, int w) {
        if (!isEdge(edge)) {
            return false;
        }
        edgeWeight[edge] = w;
        makeTree();
        forgetCounts();
        return true;
    }

    public int run(int x, int y) {
        if (builtBlocks == 0 || runs() >= MAX_RUNS) {
            return NONE;
        }
        runX = x;
        runY = y;
        runDone = 0;
        counts[edges - 1]++;
        int block = 0;
        int path = firstPath[0];
        // The last block that may be done stands behind the loop: the run is cut before it leaves.
        for (int leaves = 0; leaves < MAX_DONE - 1; leaves++) {
            doBlock(block);
            int edge = firstEdge[block] + chosenExit(builtKinds[block]);
            counts[edge]++;
            path += pathsBefore[edge];
            block = edgeTo[edge];
            if (endsPath(edge)) {
                countPath(path);
                if (block == OUTSIDE) {
                    return OK;
                }
                path = firstPath[block];
            }
        }
        doBlock(block);
        counts[CUT_COUNT]++;
        return CUT;
    }

    public int last(int which) {
        switch (which) {
            case 0:
                return runX;
            case 1:
                return runY;
            case 2:
                return runDone;
            default:
                return 0;
        }
    }

    public int edge(int edge, int what) {
        if (!isEdge(edge)) {
            return NONE;
        }
        switch (what) {
            case 0:
                return edgeFrom[edge];
            case 1:
                return edgeExit[edge];
            case 2:
                return edgeTo[edge];
            case 3:
                return inTree[edge] ? 1 : 0;
            case 4:
                return isBack[edge] ? 1 : 0;
            case 5:
                return edgeWeight[edge];
            default:
                return NONE;
        }
    }

    public int probe(int k) {
        int before = 0;
        for (int edge = 0; edge < edges; edge++) {
            if (!inTree[edge]) {
                if (before == k) {
                    return edge;
                }
                before++;
            }
        }
        return NONE;
    }

    public int count(int edge) {
        return isEdge(edge) ? counts[edge] : NONE;
    }

    public int done(int block) {
        if (block < 0 || block >= builtBlocks) {
            return NONE;
        }
        return counts[BLOCK_COUNTS + block];
    }

    public int covered(int what) {
        if (builtBlocks == 0) {
            return NONE;
        }
        switch (what) {
            case 0:
                return builtBlocks;
            case 1:
                return countsAboveZero(BLOCK_COUNTS, builtBlocks);
            case 2:
                return edges - 1;
            case 3:
                return countsAboveZero(0, edges - 1);
            case 4:
                return tooManyPaths() ? MANY : paths;
            case 5:
                return tooManyPaths() ? MANY : countsAboveZero(PATH_COUNTS, paths);
            case 6:
                return probes();
            case 7:
                return counts[CUT_COUNT];
            default:
                return NONE;
        }
    }

    public int path(int k) {
        return isPath(k) ? counts[PATH_COUNTS + k] : NONE;
    }

    public int pathEdge(int k, int i) {
        if (!isPath(k)) {
            return NONE;
        }
        int block = beginOfPath(k);
        int rest = k - firstPath[block];
        // A path does no block twice, so it has no more edges than there are blocks.
        for (int at = 0; at < builtBlocks; at++) {
            int edge = edgeOnPath(block, rest);
            if (at == i) {
                return edge;
            }
            if (endsPath(edge)) {
                return NONE;
            }
            rest -= pathsBefore[edge];
            block = edgeTo[edge];
        }
        return NONE;
    }

    public boolean dump(int d) {
        if (d < 0 || d >= DUMPS || builtBlocks == 0) {
            return false;
        }
        int start = d * COUNTS;
        for (int i = 0; i < COUNTS; i++) {
            dumped[start + i] = counts[i];
        }
        dumpKept[d] = true;
        zeroCounts();
        return true;
    }

    public boolean merge(int d) {
        if (d < 0 || d >= DUMPS || !dumpKept[d]) {
            return false;
        }
        int start = d * COUNTS;
        if (runs() + dumped[start + edges - 1] > MAX_RUNS) {
            return false;
        }
        for (int i = 0; i < COUNTS; i++) {
            counts[i] += dumped[start + i];
        }
        return true;
    }

    private static int exitsOfKind(int kind) {
        if (kind == END || kind == GO) {
            return 1;
        }
        return kind == SWITCH ? 3 : 2;
    }

    private static boolean mayBeTarget(int target) {
        return target >= 0 && target < MAX_BLOCKS;
    }

    private boolean isEdge(int edge) {
        return edge >= 0 && edge < edges;
    }

    private boolean isPath(int k) {
        return k >= 0 && k < paths && !tooManyPaths();
    }

    private boolean tooManyPaths() {
        return paths > MAX_PATHS;
    }

    private boolean endsPath(int edge) {
        return isBack[edge] || edgeTo[edge] == OUTSIDE;
    }

    private int runs() {
        return edges == 0 ? 0 : counts[edges - 1];
    }

    private boolean allTargetsThere() {
        for (int block = 0; block < blocks; block++) {
            int exits = exitsOfKind(kinds[block]);
            for (int exit = 0; exit < exits; exit++) {
                if (targets[block * MAX_EXITS + exit] >= blocks) {
                    return false;
                }
            }
        }
        return true;
    }

    private void copyBlocks() {
        for (int block = 0; block < blocks; block++) {
            builtOps[block] = ops[block];
            builtOperands[block] = operands[block];
            builtKinds[block] = kinds[block];
        }
        builtBlocks = blocks;
    }

    private void listEdges() {
        edges = 0;
        for (int block = 0; block < builtBlocks; block++) {
            firstEdge[block] = edges;
            int exits = exitsOfKind(builtKinds[block]);
            for (int exit = 0; exit < exits; exit++) {
                appendEdge(block, exit, targets[block * MAX_EXITS + exit]);
            }
        }
        appendEdge(OUTSIDE, 0, 0);
    }

    private void appendEdge(int from, int exit, int to) {
        edgeFrom[edges] = from;
        edgeExit[edges] = exit;
        edgeTo[edges] = to;
        edgeWeight[edges] = 0;
        isBack[edges] = false;
        pathsBefore[edges] = 0;
        edges++;
    }

    private void findBackEdges() {
        for (int block = 0; block < builtBlocks; block++) {
            met[block] = UNMET;
            nextExit[block] = 0;
        }
        way[0] = 0;
        met[0] = INSIDE;
        int depth = 1;
        for (int step = 0; step < WALK_STEPS && depth > 0; step++) {
            int block = way[depth - 1];
            if (nextExit[block] == exitsOfKind(builtKinds[block])) {
                met[block] = LEFT;
                // Here, since all blocks to which its paths lead on have been left by now.
                countPathsFrom(block);
                depth--;
            } else {
                int target = lookAtNextExit(block);
                if (target != OUTSIDE && met[target] == UNMET) {
                    met[target] = INSIDE;
                    way[depth] = target;
                    depth++;
                }
            }
        }
    }

    private int lookAtNextExit(int block) {
        int edge = firstEdge[block] + nextExit[block];
        nextExit[block]++;
        int target = edgeTo[edge];
        isBack[edge] = target != OUTSIDE && met[target] == INSIDE;
        return target;
    }

    private void countPathsFrom(int block) {
        int before = 0;
        int end = firstEdge[block] + exitsOfKind(builtKinds[block]);
        for (int edge = firstEdge[block]; edge < end; edge++) {
            pathsBefore[edge] = before;
            before += endsPath(edge) ? 1 : pathsFrom[edgeTo[edge]];
        }
        pathsFrom[block] = before;
    }

    private void numberPaths() {
        for (int block = 0; block < builtBlocks; block++) {
            beginsPaths[block] = block == 0;
        }
        for (int edge = 0; edge < edges; edge++) {
            if (isBack[edge]) {
                beginsPaths[edgeTo[edge]] = true;
            }
        }
        paths = 0;
        for (int block = 0; block < builtBlocks; block++) {
            firstPath[block] = paths;
            if (beginsPaths[block]) {
                paths += pathsFrom[block];
            }
        }
    }

    private int beginOfPath(int k) {
        int begin = 0;
        for (int block = 1; block < builtBlocks; block++) {
            if (beginsPaths[block] && firstPath[block] <= k) {
                begin = block;
            }
        }
        return begin;
    }

    private int edgeOnPath(int block, int rest) {
        int found = firstEdge[block];
        int end = found + exitsOfKind(builtKinds[block]);
        for (int edge = found + 1; edge < end; edge++) {
            if (pathsBefore[edge] <= rest) {
                found = edge;
            }
        }
        return found;
    }

    private void makeTree() {
        for (int place = 0; place < MAX_PLACES; place++) {
            joined[place] = place;
        }
        for (int edge = 0; edge < edges; edge++) {
            looked[edge] = false;
        }
        lookAtForTree(edges - 1);
        for (int others = edges - 1; others > 0; others--) {
            int edge = heaviestNotLooked();
            lookAtForTree(edge);
        }
    }

    private int heaviestNotLooked() {
        int heaviest = edges - 1;
        for (int edge = edges - 1; edge >= 0; edge--) {
            boolean better = looked[heaviest] || edgeWeight[edge] >= edgeWeight[heaviest];
            if (!looked[edge] && better) {
                heaviest = edge;
            }
        }
        return heaviest;
    }

    private void lookAtForTree(int edge) {
        looked[edge] = true;
        int from = joined[placeOf(edgeFrom[edge])];
        int to = joined[placeOf(edgeTo[edge])];
        inTree[edge] = from != to;
        for (int place = 0; place < MAX_PLACES; place++) {
            if (joined[place] == from) {
                joined[place] = to;
            }
        }
    }

    private static int placeOf(int end) {
        return end == OUTSIDE ? OUTSIDE_PLACE : end;
    }

    // A dump that build or weight has outlived can never be merged again, so it counts as empty.
    private void forgetCounts() {
        zeroCounts();
        for (int d = 0; d < DUMPS; d++) {
            dumpKept[d] = false;
        }
    }

    private void zeroCounts() {
        for (int i = 0; i < COUNTS; i++) {
            counts[i] = 0;
        }
    }

    private void doBlock(int block) {
        doOp(builtOps[block], builtOperands[block]);
        counts[BLOCK_COUNTS + block]++;
        runDone++;
    }

    private void doOp(int op, int a) {
        switch (op) {
            case 1:
                runX += a;
                break;
            case 2:
                runY += a;
                break;
            case 3:
                runX = runY;
                break;
            case 4:
                runY -= runX;
                break;
            case 5:
                runX = a;
                break;
            case 6:
                int x = runX;
                runX = runY;
                runY = x;
                break;
            case 7:
                runY *= a;
                break;
            default:
                break;
        }
    }

    private int chosenExit(int kind) {
        switch (kind) {
            case IF_LESS:
                return runX < runY ? 0 : 1;
            case IF_ODD:
                return (runX & 1) == 1 ? 0 : 1;
            case IF_ZERO:
                return runX == 0 ? 0 : 1;
            case SWITCH:
                int rest = runX % 3;
                return rest < 0 ? rest + 3 : rest;
            default:
                return 0;
        }
    }

    private void countPath(int path) {
        if (!tooManyPaths()) {
            counts[PATH_COUNTS + path]++;
        }
    }

    private int countsAboveZero(int start, int length) {
        int above = 0;
        for (int i = start; i < start + length; i++) {
            if (counts[i] > 0) {
                above++;
            }
        }
        return above;
    }

    private int probes() {
        int found = 0;
        for (int edge = 0; edge < edges; edge++) {
            if (!inTree[edge]) {
                found++;
            }
        }
        return found;
    }
}
