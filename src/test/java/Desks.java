/** Desks that tests begin with, and all that can be seen of a desk. */
final class Desks {
    private Desks() {
    }

    /** Appends a block for each row: op, a, kind and the targets that the kind uses. */
    static void write(Desk desk, int[]... rows) {
        for (int[] row : rows) {
            int block = desk.block(row[0], row[1]);
            Due.due("exits of block " + block, desk.exits(block, row[2], target(row, 3), target(row, 4), target(row, 5)), true);
        }
    }

    private static int target(int[] row, int at) {
        return at < row.length ? row[at] : 99;
    }

    static Desk built(int[]... rows) {
        Desk desk = new Desk();
        write(desk, rows);
        Due.due("build()", desk.build() != CoverDesk.NONE, true);
        return desk;
    }

    /** A desk with a number of blocks that do nothing and END; nothing is built. */
    static Desk withBlocks(int blocks) {
        Desk desk = new Desk();
        for (int i = 0; i < blocks; i++) {
            Due.due("block " + i, desk.block(0, 0), i);
        }
        return desk;
    }

    /** X counts up to Y, in block 0, which goes back to itself (edge 0) or on (1) to the end in block 1 (2, OUT is 3). */
    static Desk counting() {
        return built(new int[] {1, 1, 2, 0, 1}, new int[] {0, 0, 0});
    }

    /** 12 SWITCHes, each to the next one or, by two exits, to itself; the last one to itself by all three. */
    static Desk greatest() {
        Desk desk = withBlocks(12);
        for (int i = 0; i < 12; i++) {
            Due.due("exits of block " + i, desk.exits(i, 5, Math.min(i + 1, 11), i, i), true);
        }
        Due.due("build()", desk.build(), 37);
        return desk;
    }

    /** Every answer about what is built. */
    static String shown(Desk desk) {
        StringBuilder all = new StringBuilder("last");
        for (int which = 0; which < 3; which++) {
            all.append(' ').append(desk.last(which));
        }
        all.append("; covered");
        for (int what = 0; what < 8; what++) {
            all.append(' ').append(desk.covered(what));
        }
        int count = desk.count(0);
        for (int edge = 0; count != CoverDesk.NONE; edge++) {
            all.append("; edge ").append(edge).append(':');
            for (int what = 0; what < 6; what++) {
                all.append(' ').append(desk.edge(edge, what));
            }
            all.append(" count ").append(count);
            count = desk.count(edge + 1);
        }
        all.append("; done ").append(dones(desk));
        all.append("; probes ").append(probes(desk));
        all.append("; paths ").append(pathCounts(desk));
        return all.toString();
    }

    static String counts(Desk desk) {
        return row(desk::count);
    }

    static String dones(Desk desk) {
        return row(desk::done);
    }

    static String pathCounts(Desk desk) {
        return row(desk::path);
    }

    static String pathEdges(Desk desk, int k) {
        return row(i -> desk.pathEdge(k, i));
    }

    static String probes(Desk desk) {
        return row(desk::probe);
    }

    /** What edge(.., what) answers for all edges, in a row. */
    static String edges(Desk desk, int what) {
        StringBuilder all = new StringBuilder();
        for (int edge = 0; desk.count(edge) != CoverDesk.NONE; edge++) {
            all.append(edge == 0 ? "" : " ").append(desk.edge(edge, what));
        }
        return all.toString();
    }

    private interface Answer {
        int to(int number);
    }

    /** The answers from number 0 on up to the first NONE. */
    private static String row(Answer answer) {
        StringBuilder all = new StringBuilder();
        int each = answer.to(0);
        for (int number = 0; each != CoverDesk.NONE; number++) {
            all.append(number == 0 ? "" : " ").append(each);
            each = answer.to(number + 1);
        }
        return all.toString();
    }
}
