/** Promises 6, 9 and 10: weights, edges with the tree and the back edges, and probes. */
public final class TreeTest {
    public static void main(String[] args) {
        treeByNumber();
        treeByWeight();
        weightsOfAnySize();
        outEdgeIsAlwaysFirst();
        placesThatAreApart();
        weightForgetsCounts();
        weightIsRefused();
        edgeAnswers();
        edgeIsRefused();
        backEdges();
        backEdgesFollowTheOrderOfExits();
        edgesOfUnmetBlocksAreNotBack();
        probesByNumber();
        probesTellAllCounts();
        Due.finish();
    }

    /** A diamond: 0 to 1 (edge 0) or 2 (1), both to 3 (2 and 3), which ends (4); OUT is 5. */
    private static CoverDesk diamond() {
        return Desks.built(new int[] {0, 0, 3, 1, 2}, new int[] {0, 0, 1, 3}, new int[] {0, 0, 1, 3}, new int[] {0, 0, 0});
    }

    private static void treeByNumber() {
        CoverDesk desk = diamond();
        Due.due("tree, weights equal", Desks.edges(desk, 3), "1 1 1 0 0 1");
        Due.due("weights at first", Desks.edges(desk, 5), "0 0 0 0 0 0");
    }

    private static void treeByWeight() {
        CoverDesk desk = diamond();
        Due.due("weight(4, 1)", desk.weight(4, 1), true);
        Due.due("tree, 4 heavy", Desks.edges(desk, 3), "1 1 0 0 1 1");
        desk.weight(3, 2);
        Due.due("tree, 3 and 4 heavy", Desks.edges(desk, 3), "1 0 0 1 1 1");
        desk.weight(4, -1);
        Due.due("tree, 3 heavy and 4 light", Desks.edges(desk, 3), "1 1 0 1 0 1");
        desk.weight(0, -1);
        Due.due("tree, 0 as light as 4", Desks.edges(desk, 3), "0 1 1 1 0 1");
        desk.weight(3, 0);
        desk.weight(0, 0);
        Due.due("tree, 4 light alone", Desks.edges(desk, 3), "1 1 1 0 0 1");
        Due.due("weights", Desks.edges(desk, 5), "0 0 0 0 -1 0");
    }

    private static void weightsOfAnySize() {
        CoverDesk desk = diamond();
        desk.weight(0, Integer.MIN_VALUE);
        desk.weight(1, Integer.MAX_VALUE);
        desk.weight(4, Integer.MAX_VALUE);
        Due.due("tree, least and greatest weights", Desks.edges(desk, 3), "0 1 1 0 1 1");
        Due.due("least weight", desk.edge(0, 5), Integer.MIN_VALUE);
        Due.due("greatest weight", desk.edge(1, 5), Integer.MAX_VALUE);
        desk.weight(2, Integer.MIN_VALUE);
        Due.due("tree, two of the least weight", Desks.edges(desk, 3), "1 1 0 0 1 1");
    }

    private static void outEdgeIsAlwaysFirst() {
        CoverDesk desk = Desks.built(new int[] {0, 0, 0});
        desk.weight(0, 5);
        Due.due("weight of OUT", desk.weight(1, -5), true);
        Due.due("tree, OUT light", Desks.edges(desk, 3), "0 1");
        Due.due("weight of OUT, read", desk.edge(1, 5), -5);
    }

    private static void placesThatAreApart() {
        // Block 0 ends; 1 and 2 go to each other and can't be reached; 3 goes to itself.
        CoverDesk desk = Desks.built(new int[] {0, 0, 0}, new int[] {0, 0, 1, 2}, new int[] {0, 0, 1, 1}, new int[] {0, 0, 1, 3});
        Due.due("tree of places apart", Desks.edges(desk, 3), "0 1 0 0 1");
        Due.due("probes of places apart", Desks.probes(desk), "0 2 3");
        desk.weight(2, 1);
        desk.weight(3, 9);
        Due.due("tree of places apart, 2 and 3 heavy", Desks.edges(desk, 3), "0 0 1 0 1");
    }

    private static void weightForgetsCounts() {
        CoverDesk desk = Desks.counting();
        desk.run(0, 3);
        desk.run(0, 1000);
        Due.due("cut before weight", desk.covered(7), 1);
        Due.due("weight with what it was", desk.weight(0, 0), true);
        Due.due("counts after weight", Desks.counts(desk), "0 0 0 0");
        Due.due("paths after weight", Desks.pathCounts(desk), "0 0");
        Due.due("done after weight", desk.done(0), 0);
        Due.due("cut after weight", desk.covered(7), 0);
        Due.due("last is from the latest run since build", desk.last(2), 100);
    }

    private static void weightIsRefused() {
        CoverDesk desk = Desks.counting();
        desk.run(0, 3);
        String before = Desks.shown(desk);
        int[] wrong = {-1, 4, 36, Integer.MIN_VALUE, Integer.MAX_VALUE};
        for (int edge : wrong) {
            Due.due("weight(" + edge + ", 1)", desk.weight(edge, 1), false);
        }
        Due.due("what is built, after refused weights", Desks.shown(desk), before);
    }

    private static void edgeAnswers() {
        CoverDesk desk = diamond();
        Due.due("from", Desks.edges(desk, 0), "0 0 1 2 3 -1");
        Due.due("exit", Desks.edges(desk, 1), "0 1 0 0 0 0");
        Due.due("to", Desks.edges(desk, 2), "1 2 3 3 -1 0");
        Due.due("back", Desks.edges(desk, 4), "0 0 0 0 0 0");
    }

    private static void edgeIsRefused() {
        CoverDesk desk = diamond();
        int[] wrong = {-1, 6, Integer.MIN_VALUE, Integer.MAX_VALUE};
        for (int edge : wrong) {
            for (int what = 0; what <= 5; what++) {
                Due.due("edge(" + edge + ", " + what + ")", desk.edge(edge, what), CoverDesk.NONE);
            }
        }
        for (int what : wrong) {
            Due.due("edge(0, " + what + ")", desk.edge(0, what), CoverDesk.NONE);
        }
    }

    private static void backEdges() {
        // 0 to 1; 1 to 1 (back) or 2; 2 to 0 (back), 1 (back) or 3; 3 to 4; 4 ends.
        CoverDesk desk = Desks.built(new int[] {0, 0, 1, 1}, new int[] {0, 0, 2, 1, 2}, new int[] {0, 0, 5, 0, 1, 3},
                new int[] {0, 0, 1, 4}, new int[] {0, 0, 0});
        Due.due("back", Desks.edges(desk, 4), "0 1 0 1 1 0 0 0 0");
    }

    private static void backEdgesFollowTheOrderOfExits() {
        // 1 and 2 go to each other: which of these edges is back depends on where 0 goes first.
        int[][] rest = {{0, 0, 2, 2, 3}, {0, 0, 2, 1, 3}, {0, 0, 0}};
        CoverDesk oneFirst = Desks.built(new int[] {0, 0, 2, 1, 2}, rest[0], rest[1], rest[2]);
        Due.due("back, 1 first", Desks.edges(oneFirst, 4), "0 0 0 0 1 0 0 0");
        CoverDesk twoFirst = Desks.built(new int[] {0, 0, 2, 2, 1}, rest[0], rest[1], rest[2]);
        Due.due("back, 2 first", Desks.edges(twoFirst, 4), "0 0 1 0 0 0 0 0");
        // 0 to 2 or 1; 2 ends; 1 to 2: one has gone back from 2 by then.
        CoverDesk across = Desks.built(new int[] {0, 0, 2, 2, 1}, new int[] {0, 0, 1, 2}, new int[] {0, 0, 0});
        Due.due("not back, since one has gone back", Desks.edges(across, 4), "0 0 0 0 0");
    }

    private static void edgesOfUnmetBlocksAreNotBack() {
        CoverDesk desk = Desks.built(new int[] {0, 0, 0}, new int[] {0, 0, 1, 1}, new int[] {0, 0, 2, 1, 0});
        Due.due("back of blocks that are not met", Desks.edges(desk, 4), "0 0 0 0 0");
        Due.due("paths without blocks that are not met", desk.covered(4), 1);
    }

    private static void probesByNumber() {
        CoverDesk desk = diamond();
        Due.due("probes", Desks.probes(desk), "3 4");
        Due.due("covered(6)", desk.covered(6), 2);
        desk.weight(4, 1);
        Due.due("probes, 4 heavy", Desks.probes(desk), "2 3");
        int[] wrong = {-1, 2, 3, Integer.MIN_VALUE, Integer.MAX_VALUE};
        for (int k : wrong) {
            Due.due("probe(" + k + ")", desk.probe(k), CoverDesk.NONE);
        }
    }

    /** Why there are probes: what goes into a block leaves it, so those off a tree tell the others. */
    private static void probesTellAllCounts() {
        CoverDesk desk = Desks.built(new int[] {1, 1, 2, 0, 1}, new int[] {0, 0, 5, 2, 3, 4}, new int[] {2, -2, 1, 5},
                new int[] {3, 0, 4, 5, 0}, new int[] {5, 7, 3, 5, 1}, new int[] {0, 0, 0});
        for (int x = -6; x <= 6; x++) {
            Due.due("run to 4", desk.run(x, 4), CoverDesk.OK);
            Due.due("run to 0", desk.run(x, 0), CoverDesk.OK);
        }
        int edges = 12;
        int[][] ends = new int[edges][2];
        int[] told = new int[edges];
        boolean[] known = new boolean[edges];
        for (int edge = 0; edge < edges; edge++) {
            ends[edge][0] = desk.edge(edge, 0);
            ends[edge][1] = desk.edge(edge, 2);
            known[edge] = desk.edge(edge, 3) == 0;
            told[edge] = known[edge] ? desk.count(edge) : 0;
        }
        for (int round = 0; round < edges; round++) {
            for (int place = -1; place < 6; place++) {
                tellLastUnknown(place, ends, told, known);
            }
        }
        for (int edge = 0; edge < edges; edge++) {
            Due.due("edge " + edge + " is told by probes", known[edge], true);
            Due.due("what probes tell of edge " + edge, told[edge], desk.count(edge));
        }
    }

    private static void tellLastUnknown(int place, int[][] ends, int[] told, boolean[] known) {
        int unknown = -1;
        int unknowns = 0;
        int balance = 0;
        for (int edge = 0; edge < told.length; edge++) {
            int sign = (ends[edge][1] == place ? 1 : 0) - (ends[edge][0] == place ? 1 : 0);
            if (sign != 0 && !known[edge]) {
                unknown = edge;
                unknowns++;
            }
            balance += known[edge] ? sign * told[edge] : 0;
        }
        if (unknowns == 1) {
            told[unknown] = ends[unknown][1] == place ? -balance : balance;
            known[unknown] = true;
        }
    }
}
