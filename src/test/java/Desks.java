/** Desks that tests begin with, and all that can be seen of a desk. */
final class Desks {
    private Desks() {
    }

    /** Appends a block for each row: op, a, kind and the targets that the kind uses. */
    static void write(CoverDesk desk, int[]... rows) {
        for (int[] row : rows) {
            int block = desk.block(row[0], row[1]);
            Due.due("exits of block " + block, desk.exits(block, row[2], target(row, 3), target(row, 4), target(row, 5)), true);
        }
    }

    private static int target(int[] row, int at) {
        return at < row.length ? row[at] : 99;
    }

    static CoverDesk built(int[]... rows) {
        CoverDesk desk = new CoverDesk();
        write(desk, rows);
        Due.due("build()", desk.build() != CoverDesk.NONE, true);
        return desk;
    }

    /** X counts up to Y, in block 0, which goes back to itself (edge 0) or on (1) to the end in block 1 (2, OUT is 3). */
    static CoverDesk counting() {
        return built(new int[] {1, 1, 2, 0, 1}, new int[] {0, 0, 0});
    }

    /** Every answer about what is built; for small programs, since an object is used for 512 calls only. */
    static String shown(CoverDesk desk) {
        StringBuilder all = new StringBuilder();
        all.append("last ").append(desk.last(0)).append(' ').append(desk.last(1)).append(' ').append(desk.last(2));
        all.append("; covered");
        for (int what = 0; what < 8; what++) {
            all.append(' ').append(desk.covered(what));
        }
        for (int edge = 0; desk.count(edge) != CoverDesk.NONE; edge++) {
            all.append("; edge ").append(edge).append(':');
            for (int what = 0; what < 6; what++) {
                all.append(' ').append(desk.edge(edge, what));
            }
            all.append(" count ").append(desk.count(edge));
        }
        all.append("; done");
        for (int block = 0; desk.done(block) != CoverDesk.NONE; block++) {
            all.append(' ').append(desk.done(block));
        }
        all.append("; paths ").append(pathCounts(desk));
        return all.toString();
    }

    static String counts(CoverDesk desk) {
        StringBuilder all = new StringBuilder();
        for (int edge = 0; desk.count(edge) != CoverDesk.NONE; edge++) {
            all.append(edge == 0 ? "" : " ").append(desk.count(edge));
        }
        return all.toString();
    }

    static String pathCounts(CoverDesk desk) {
        StringBuilder all = new StringBuilder();
        for (int k = 0; desk.path(k) != CoverDesk.NONE; k++) {
            all.append(k == 0 ? "" : " ").append(desk.path(k));
        }
        return all.toString();
    }

    static String pathEdges(CoverDesk desk, int k) {
        StringBuilder all = new StringBuilder();
        for (int i = 0; desk.pathEdge(k, i) != CoverDesk.NONE; i++) {
            all.append(i == 0 ? "" : " ").append(desk.pathEdge(k, i));
        }
        return all.toString();
    }

    /** What edge(.., what) answers for all edges, in a row. */
    static String edges(CoverDesk desk, int what) {
        StringBuilder all = new StringBuilder();
        for (int edge = 0; desk.count(edge) != CoverDesk.NONE; edge++) {
            all.append(edge == 0 ? "" : " ").append(desk.edge(edge, what));
        }
        return all.toString();
    }

    static String probes(CoverDesk desk) {
        StringBuilder all = new StringBuilder();
        for (int k = 0; desk.probe(k) != CoverDesk.NONE; k++) {
            all.append(k == 0 ? "" : " ").append(desk.probe(k));
        }
        return all.toString();
    }
}
