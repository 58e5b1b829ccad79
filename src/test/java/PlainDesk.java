import java.util.ArrayList;
import java.util.Arrays;
import java.util.Comparator;
import java.util.HashMap;
import java.util.List;
import java.util.Map;
import java.util.TreeSet;

/**
 * The document once more, written from its words with the library and with recursion: it goes all paths and
 * writes them down, where CoverDesk numbers them, so that the two can be held against each other.
 */
final class PlainDesk {
    private static final int NONE = -1;
    private static final int MANY = -2;

    private static final class Block {
        int op;
        int a;
        int kind;
        int[] targets = {-1};

        Block copy() {
            Block copy = new Block();
            copy.op = op;
            copy.a = a;
            copy.kind = kind;
            copy.targets = targets.clone();
            return copy;
        }
    }

    private static final class Edge {
        int number;
        int from;
        int exit;
        int to;
        int weight;
        boolean tree;
        boolean back;
    }

    private final List<Block> blocks = new ArrayList<>();
    private List<Block> program = null;
    private List<Edge> edges = new ArrayList<>();
    private List<List<Integer>> paths = new ArrayList<>();
    private Map<String, Integer> counts = new HashMap<>();
    private final List<Map<String, Integer>> dumps = new ArrayList<>(Arrays.asList(null, null));
    private int[] latest = {0, 0, 0};

    int block(int op, int a) {
        if (op < 0 || op > 7 || blocks.size() == 12) {
            return NONE;
        }
        Block block = new Block();
        block.op = op;
        block.a = a;
        blocks.add(block);
        return blocks.size() - 1;
    }

    boolean exits(int block, int kind, int first, int second, int third) {
        if (block < 0 || block >= blocks.size() || kind < 0 || kind > 5) {
            return false;
        }
        int[] used = Arrays.copyOf(new int[] {first, second, third}, new int[] {0, 1, 2, 2, 2, 3}[kind]);
        for (int target : used) {
            if (target < 0 || target > 11) {
                return false;
            }
        }
        blocks.get(block).kind = kind;
        blocks.get(block).targets = kind == 0 ? new int[] {-1} : used;
        return true;
    }

    int clear() {
        int were = blocks.size();
        blocks.clear();
        return were;
    }

    int build() {
        for (Block block : blocks) {
            for (int target : block.targets) {
                if (target >= blocks.size()) {
                    return NONE;
                }
            }
        }
        if (blocks.isEmpty()) {
            return NONE;
        }
        program = new ArrayList<>();
        edges = new ArrayList<>();
        for (Block block : blocks) {
            program.add(block.copy());
            for (int exit = 0; exit < block.targets.length; exit++) {
                addEdge(program.size() - 1, exit, block.targets[exit]);
            }
        }
        addEdge(-1, 0, 0);
        findBack(0, new TreeSet<>(), new TreeSet<>());
        findPaths();
        makeTree();
        forget();
        latest = new int[] {0, 0, 0};
        return edges.size();
    }

    private void addEdge(int from, int exit, int to) {
        Edge edge = new Edge();
        edge.number = edges.size();
        edge.from = from;
        edge.exit = exit;
        edge.to = to;
        edges.add(edge);
    }

    private List<Edge> edgesOf(int block) {
        List<Edge> found = new ArrayList<>();
        for (Edge edge : edges) {
            if (edge.from == block) {
                found.add(edge);
            }
        }
        return found;
    }

    private void findBack(int block, TreeSet<Integer> met, TreeSet<Integer> inside) {
        met.add(block);
        inside.add(block);
        for (Edge edge : edgesOf(block)) {
            edge.back = inside.contains(edge.to);
            if (edge.to != -1 && !met.contains(edge.to)) {
                findBack(edge.to, met, inside);
            }
        }
        inside.remove(block);
    }

    private void findPaths() {
        TreeSet<Integer> begins = new TreeSet<>();
        begins.add(0);
        for (Edge edge : edges) {
            if (edge.back) {
                begins.add(edge.to);
            }
        }
        paths = new ArrayList<>();
        for (int begin : begins) {
            goOn(begin, new ArrayList<>());
        }
    }

    private void goOn(int block, List<Integer> before) {
        for (Edge edge : edgesOf(block)) {
            if (paths.size() > 300) {
                return;
            }
            List<Integer> row = new ArrayList<>(before);
            row.add(edge.number);
            if (edge.back || edge.to == -1) {
                paths.add(row);
            } else {
                goOn(edge.to, row);
            }
        }
    }

    private void makeTree() {
        List<Edge> order = new ArrayList<>(edges.subList(0, edges.size() - 1));
        order.sort(Comparator.comparingLong((Edge edge) -> -(long) edge.weight).thenComparingInt(edge -> edge.number));
        order.add(0, edges.get(edges.size() - 1));
        for (Edge edge : edges) {
            edge.tree = false;
        }
        for (Edge edge : order) {
            edge.tree = !areJoined(edge.from, edge.to);
        }
    }

    private boolean areJoined(int one, int other) {
        TreeSet<Integer> reached = new TreeSet<>();
        reached.add(one);
        boolean grew = true;
        while (grew) {
            grew = false;
            for (Edge edge : edges) {
                if (edge.tree && reached.contains(edge.from) != reached.contains(edge.to)) {
                    reached.add(edge.from);
                    reached.add(edge.to);
                    grew = true;
                }
            }
        }
        return reached.contains(other);
    }

    private void forget() {
        counts = new HashMap<>();
        dumps.set(0, null);
        dumps.set(1, null);
    }

    boolean weight(int edge, int w) {
        if (edge < 0 || edge >= edges.size()) {
            return false;
        }
        edges.get(edge).weight = w;
        makeTree();
        forget();
        return true;
    }

    private int number(String counter) {
        return counts.getOrDefault(counter, 0);
    }

    private void add(String counter, int n) {
        counts.put(counter, number(counter) + n);
    }

    private int runs() {
        return number("edge" + (edges.size() - 1));
    }

    int run(int x, int y) {
        if (program == null || runs() == 1000000) {
            return NONE;
        }
        add("edge" + (edges.size() - 1), 1);
        latest = new int[] {x, y, 0};
        List<Integer> row = new ArrayList<>();
        int block = 0;
        while (block != -1) {
            doOp(program.get(block));
            add("block" + block, 1);
            latest[2]++;
            if (latest[2] == 100) {
                add("cut", 1);
                return 1;
            }
            Edge edge = edgesOf(block).get(exitOf(program.get(block)));
            add("edge" + edge.number, 1);
            row.add(edge.number);
            if (edge.back || edge.to == -1) {
                add("path" + row, 1);
                row.clear();
            }
            block = edge.to;
        }
        return 0;
    }

    private void doOp(Block block) {
        int x = latest[0];
        int y = latest[1];
        switch (block.op) {
            case 1 -> latest[0] = x + block.a;
            case 2 -> latest[1] = y + block.a;
            case 3 -> latest[0] = y;
            case 4 -> latest[1] = y - x;
            case 5 -> latest[0] = block.a;
            case 6 -> latest = new int[] {y, x, latest[2]};
            case 7 -> latest[1] = y * block.a;
            default -> { }
        }
    }

    private int exitOf(Block block) {
        int x = latest[0];
        return switch (block.kind) {
            case 2 -> x < latest[1] ? 0 : 1;
            case 3 -> Math.floorMod(x, 2) == 1 ? 0 : 1;
            case 4 -> x == 0 ? 0 : 1;
            case 5 -> Math.floorMod(x, 3);
            default -> 0;
        };
    }

    int last(int which) {
        return which >= 0 && which <= 2 ? latest[which] : 0;
    }

    int edge(int number, int what) {
        if (number < 0 || number >= edges.size()) {
            return NONE;
        }
        Edge edge = edges.get(number);
        return switch (what) {
            case 0 -> edge.from;
            case 1 -> edge.exit;
            case 2 -> edge.to;
            case 3 -> edge.tree ? 1 : 0;
            case 4 -> edge.back ? 1 : 0;
            case 5 -> edge.weight;
            default -> NONE;
        };
    }

    private List<Integer> probes() {
        List<Integer> found = new ArrayList<>();
        for (Edge edge : edges) {
            if (!edge.tree) {
                found.add(edge.number);
            }
        }
        return found;
    }

    int probe(int k) {
        return k >= 0 && k < probes().size() ? probes().get(k) : NONE;
    }

    int count(int edge) {
        return edge >= 0 && edge < edges.size() ? number("edge" + edge) : NONE;
    }

    int done(int block) {
        return program != null && block >= 0 && block < program.size() ? number("block" + block) : NONE;
    }

    private int gone(String what) {
        int gone = 0;
        for (Map.Entry<String, Integer> entry : counts.entrySet()) {
            if (entry.getKey().startsWith(what) && entry.getValue() > 0) {
                gone++;
            }
        }
        return gone;
    }

    int covered(int what) {
        if (program == null) {
            return NONE;
        }
        boolean many = paths.size() > 300;
        return switch (what) {
            case 0 -> program.size();
            case 1 -> gone("block");
            case 2 -> edges.size() - 1;
            case 3 -> gone("edge") - (runs() > 0 ? 1 : 0);
            case 4 -> many ? MANY : paths.size();
            case 5 -> many ? MANY : gone("path");
            case 6 -> probes().size();
            case 7 -> number("cut");
            default -> NONE;
        };
    }

    private boolean isPath(int k) {
        return paths.size() <= 300 && k >= 0 && k < paths.size();
    }

    int path(int k) {
        return isPath(k) ? number("path" + paths.get(k)) : NONE;
    }

    int pathEdge(int k, int i) {
        return isPath(k) && i >= 0 && i < paths.get(k).size() ? paths.get(k).get(i) : NONE;
    }

    boolean dump(int d) {
        if (program == null || d < 0 || d > 1) {
            return false;
        }
        dumps.set(d, counts);
        counts = new HashMap<>();
        return true;
    }

    boolean merge(int d) {
        if (d < 0 || d > 1 || dumps.get(d) == null) {
            return false;
        }
        Map<String, Integer> kept = dumps.get(d);
        if (runs() + kept.getOrDefault("edge" + (edges.size() - 1), 0) > 1000000) {
            return false;
        }
        kept.forEach(this::add);
        return true;
    }
}
