/** Rows of calls, made from fixed seeds, on CoverDesk and on PlainDesk: their answers must be the same. */
public final class ModelTest {
    private static final int SEEDS = 3000;
    private static final int[] ODD_INTS = {0, 1, -1, 2, -2, 3, -3, 7, 11, 12, Integer.MAX_VALUE, Integer.MIN_VALUE};

    private final Desk desk = new Desk();
    private final PlainDesk plain = new PlainDesk();
    private final int seed;
    private long state;

    private ModelTest(int seed) {
        this.seed = seed;
        this.state = seed * 0x9E3779B97F4A7C15L;
    }

    public static void main(String[] args) {
        for (int seed = 1; seed <= SEEDS; seed++) {
            new ModelTest(seed).go();
        }
        Due.finish();
    }

    private void go() {
        // Every other row begins with a program, the rest find their way to one through refusals.
        if (seed % 2 == 0) {
            writeProgram();
        }
        // The longest piece, grow, and look at the end fit into what is left here.
        while (desk.calls() < Desk.CALLS - 150) {
            onePiece();
        }
        look();
    }

    private void onePiece() {
        int choice = below(100);
        if (choice < 4) {
            writeProgram();
        } else if (choice < 10) {
            change();
        } else if (choice < 40) {
            run(value(), value());
        } else if (choice < 44) {
            weight(number(40), below(2) == 0 ? value() : below(3));
        } else if (choice < 50) {
            dump(number(3));
        } else if (choice < 56) {
            merge(number(3));
        } else if (choice < 57) {
            grow();
        } else {
            read();
        }
    }

    private void writeProgram() {
        clear();
        int blocks = 1 + below(12);
        for (int i = 0; i < blocks; i++) {
            block(below(8), value());
        }
        int style = below(3);
        for (int i = 0; i < blocks; i++) {
            int kind = style == 0 ? below(6) : 1 + below(5);
            exits(i, kind, target(i, blocks, style), target(i, blocks, style), target(i, blocks, style));
        }
        if (style != 0) {
            exits(blocks - 1, 0, 0, 0, 0);
        }
        build();
    }

    /** Style 2 goes mostly forward: many blocks on a path, and many paths. */
    private int target(int block, int blocks, int style) {
        if (style == 2 && below(8) != 0) {
            return Math.min(blocks - 1, block + 1 + below(2));
        }
        return below(blocks);
    }

    private void change() {
        switch (below(4)) {
            case 0 -> block(number(10), value());
            case 1 -> exits(number(13), number(7), number(13), number(13), number(13));
            case 2 -> build();
            default -> {
                if (below(3) == 0) {
                    clear();
                }
            }
        }
    }

    /** Doubles the counts until there can be no more, so that the limit of runs is met. */
    private void grow() {
        int d = below(2);
        for (int i = 0; i < 20; i++) {
            dump(d);
            merge(d);
            merge(d);
            run(value(), value());
        }
    }

    private void read() {
        switch (below(9)) {
            case 0 -> last(number(4));
            case 1 -> edge(number(38), number(7));
            case 2 -> probe(number(30));
            case 3 -> count(number(38));
            case 4 -> done(number(13));
            case 5 -> covered(number(9));
            case 6 -> path(pathNumber());
            default -> pathEdge(pathNumber(), number(13));
        }
    }

    private void look() {
        for (int what = 0; what < 8; what++) {
            covered(what);
        }
        for (int i = 0; i < 12; i++) {
            done(i);
            count(i * 3 + below(3));
            edge(i * 3 + below(3), 3 + below(2));
            path(pathNumber());
            pathEdge(pathNumber(), below(6));
        }
    }

    private int pathNumber() {
        int paths = plain.covered(4);
        return paths > 0 && below(8) != 0 ? below(paths) : number(305);
    }

    /** From 0 on below the limit, and sometimes another int. */
    private int number(int limit) {
        return below(16) == 0 ? value() : below(limit);
    }

    private int value() {
        return switch (below(4)) {
            case 0 -> ODD_INTS[below(ODD_INTS.length)];
            case 1 -> (int) (next() * 2 + Integer.MIN_VALUE + below(2));
            default -> below(21) - 10;
        };
    }

    private int below(int limit) {
        return (int) (next() % limit);
    }

    private long next() {
        state = state * 6364136223846793005L + 1442695040888963407L;
        return state >>> 33;
    }

    private void same(String call, int got, int want) {
        Due.due("seed " + seed + ", call " + desk.calls() + ": " + call, got, want);
    }

    private void same(String call, boolean got, boolean want) {
        same(call, got ? 1 : 0, want ? 1 : 0);
    }

    private void block(int op, int a) {
        same("block(" + op + ", " + a + ")", desk.block(op, a), plain.block(op, a));
    }

    private void exits(int block, int kind, int first, int second, int third) {
        same("exits(" + block + ", " + kind + ", " + first + ", " + second + ", " + third + ")",
                desk.exits(block, kind, first, second, third), plain.exits(block, kind, first, second, third));
    }

    private void clear() {
        same("clear()", desk.clear(), plain.clear());
    }

    private void build() {
        same("build()", desk.build(), plain.build());
    }

    private void weight(int edge, int w) {
        same("weight(" + edge + ", " + w + ")", desk.weight(edge, w), plain.weight(edge, w));
    }

    private void run(int x, int y) {
        same("run(" + x + ", " + y + ")", desk.run(x, y), plain.run(x, y));
    }

    private void last(int which) {
        same("last(" + which + ")", desk.last(which), plain.last(which));
    }

    private void edge(int edge, int what) {
        same("edge(" + edge + ", " + what + ")", desk.edge(edge, what), plain.edge(edge, what));
    }

    private void probe(int k) {
        same("probe(" + k + ")", desk.probe(k), plain.probe(k));
    }

    private void count(int edge) {
        same("count(" + edge + ")", desk.count(edge), plain.count(edge));
    }

    private void done(int block) {
        same("done(" + block + ")", desk.done(block), plain.done(block));
    }

    private void covered(int what) {
        same("covered(" + what + ")", desk.covered(what), plain.covered(what));
    }

    private void path(int k) {
        same("path(" + k + ")", desk.path(k), plain.path(k));
    }

    private void pathEdge(int k, int i) {
        same("pathEdge(" + k + ", " + i + ")", desk.pathEdge(k, i), plain.pathEdge(k, i));
    }

    private void dump(int d) {
        same("dump(" + d + ")", desk.dump(d), plain.dump(d));
    }

    private void merge(int d) {
        same("merge(" + d + ")", desk.merge(d), plain.merge(d));
    }
}
