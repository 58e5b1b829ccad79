/** Promises 6, 9 and 10: weights, edges with the tree and the back edges, and probes. */
public final class TreeTest {
    private static final int MIN = Integer.MIN_VALUE;
    private static final int MAX = Integer.MAX_VALUE;

    public static void main(String[] args) {
        edgesAreNumbered();
        treeByNumber();
        treeByWeight();
        treeByTheLeastDifference();
        weightsOfAnySize();
        outEdgeIsAlwaysFirst();
        treeInWhicheverDirection();
        outsideIsAPlace();
        edgesWithOneEndAreOffTheTree();
        placesThatAreApart();
        weightForgetsCounts();
        weightOfEdgesThatAreThere();
        edgeAnswers();
        edgesThatAreThere();
        whatFrom0To5();
        outEdge();
        backEdges();
        backEdgesFollowTheOrderOfExits();
        backWhileOneHasNotGoneBack();
        edgesOfUnmetBlocksAreNotBack();
        probesByNumber();
        probesThatAreThere();
        probesTellAllCounts();
        Due.finish();
    }

    /** A diamond: 0 to 1 (edge 0) or 2 (1), both to 3 (2 and 3), which ends (4); OUT is 5. */
    private static Desk diamond() {
        return Desks.built(new int[] {0, 0, 3, 1, 2}, new int[] {0, 0, 1, 3}, new int[] {0, 0, 1, 3}, new int[] {0, 0, 0});
    }

    // "numbered by blocks, then exits; the OUT edge comes last: it leads from outside into block 0"
    private static void edgesAreNumbered() {
        Desk desk = Desks.built(new int[] {0, 0, 5, 2, 1, 0}, new int[] {0, 0, 0}, new int[] {0, 0, 2, 2, 1});
        Due.due("from", Desks.edges(desk, 0), "0 0 0 1 2 2 -1");
        Due.due("exit", Desks.edges(desk, 1), "0 1 2 0 0 1 0");
        Due.due("to", Desks.edges(desk, 2), "2 1 0 -1 2 1 0");
    }

    // "of the same weight by number"; "Each edge has a WEIGHT (0 at first)."
    private static void treeByNumber() {
        Desk desk = diamond();
        Due.due("tree, weights equal", Desks.edges(desk, 3), "1 1 1 0 0 1");
        Due.due("weights at first", Desks.edges(desk, 5), "0 0 0 0 0 0");
    }

    // "by falling weight"
    private static void treeByWeight() {
        Desk desk = diamond();
        Due.due("weight(4, 1)", desk.weight(4, 1), true);
        Due.due("tree, 4 heavy", Desks.edges(desk, 3), "1 1 0 0 1 1");
        desk.weight(3, 2);
        Due.due("tree, 3 and 4 heavy", Desks.edges(desk, 3), "1 0 0 1 1 1");
        desk.weight(4, -1);
        Due.due("tree, 3 heavy and 4 light", Desks.edges(desk, 3), "1 1 0 1 0 1");
        desk.weight(0, -1);
        Due.due("tree, 0 as light as 4", Desks.edges(desk, 3), "0 1 1 1 0 1");
        desk.weight(3, 0);
        desk.weight(0, 0);
        Due.due("tree, 4 light alone", Desks.edges(desk, 3), "1 1 1 0 0 1");
        Due.due("weights", Desks.edges(desk, 5), "0 0 0 0 -1 0");
    }

    // Of two edges between the same places the first one is in the tree, unless the second is heavier.
    private static void treeByTheLeastDifference() {
        int[][] weights = {{0, 0}, {0, 1}, {1, 0}, {-1, -1}, {-1, 0}, {MAX, MAX}, {MAX - 1, MAX}, {MAX, MAX - 1},
            {MIN, MIN}, {MIN, MIN + 1}, {MIN + 1, MIN}, {MIN, MAX}, {MAX, MIN}};
        for (int[] pair : weights) {
            Desk desk = Desks.built(new int[] {0, 0, 2, 1, 1}, new int[] {0, 0, 0});
            desk.weight(2, MIN);
            desk.weight(0, pair[0]);
            desk.weight(1, pair[1]);
            String due = pair[1] > pair[0] ? "0 1 0 1" : "1 0 0 1";
            Due.due("tree of weights " + pair[0] + ", " + pair[1], Desks.edges(desk, 3), due);
        }
    }

    // Promise 6: "(any int)"
    private static void weightsOfAnySize() {
        Desk desk = diamond();
        desk.weight(0, MIN);
        desk.weight(1, MAX);
        desk.weight(4, MAX);
        Due.due("tree, least and greatest weights", Desks.edges(desk, 3), "0 1 1 0 1 1");
        Due.due("least weight", desk.edge(0, 5), MIN);
        Due.due("greatest weight", desk.edge(1, 5), MAX);
        desk.weight(2, MIN);
        Due.due("tree, two of the least weight", Desks.edges(desk, 3), "1 1 0 0 1 1");
    }

    // "the OUT edge first, then the others"
    private static void outEdgeIsAlwaysFirst() {
        Desk desk = Desks.built(new int[] {0, 0, 0});
        Due.due("tree, weights equal", Desks.edges(desk, 3), "0 1");
        desk.weight(0, MAX);
        Due.due("tree, END heavy", Desks.edges(desk, 3), "0 1");
        Due.due("weight of OUT", desk.weight(1, MIN), true);
        Due.due("tree, END heavy and OUT light", Desks.edges(desk, 3), "0 1");
        Due.due("weight of OUT, read", desk.edge(1, 5), MIN);
        desk.weight(1, MAX);
        Due.due("tree, OUT as heavy", Desks.edges(desk, 3), "0 1");
    }

    // "if its two ends (in whichever direction) are not yet joined"
    private static void treeInWhicheverDirection() {
        // 0 to 1, 1 to 0; and 2 to 1 and to 0, where nothing leads to 2.
        Desk desk = Desks.built(new int[] {0, 0, 1, 1}, new int[] {0, 0, 1, 0}, new int[] {0, 0, 2, 1, 0});
        Due.due("tree, one way", Desks.edges(desk, 3), "1 0 1 0 1");
        desk.weight(1, 1);
        Due.due("tree, the other way", Desks.edges(desk, 3), "0 1 1 0 1");
        desk.weight(3, 2);
        Due.due("tree, from what is not led to", Desks.edges(desk, 3), "0 1 0 1 1");
    }

    // "Outside is a PLACE like a block."
    private static void outsideIsAPlace() {
        // 0 to 1 or 2, which both END: two ways from 0 to outside, beside the OUT edge.
        Desk desk = Desks.built(new int[] {0, 0, 3, 1, 2}, new int[] {0, 0, 0}, new int[] {0, 0, 0});
        Due.due("tree, weights equal", Desks.edges(desk, 3), "1 1 0 0 1");
        desk.weight(2, 1);
        Due.due("tree, by outside to 1", Desks.edges(desk, 3), "0 1 1 0 1");
        desk.weight(3, 1);
        Due.due("tree, by outside to 1 and 2", Desks.edges(desk, 3), "0 0 1 1 1");
    }

    private static void edgesWithOneEndAreOffTheTree() {
        Desk desk = Desks.built(new int[] {0, 0, 5, 0, 0, 1}, new int[] {0, 0, 0});
        desk.weight(0, MAX);
        desk.weight(1, 1);
        Due.due("tree without loops", Desks.edges(desk, 3), "0 0 1 0 1");
    }

    private static void placesThatAreApart() {
        // Block 0 ends; 1 and 2 go to each other and can't be reached; 3 goes to itself.
        Desk desk = Desks.built(new int[] {0, 0, 0}, new int[] {0, 0, 1, 2}, new int[] {0, 0, 1, 1}, new int[] {0, 0, 1, 3});
        Due.due("tree of places apart", Desks.edges(desk, 3), "0 1 0 0 1");
        Due.due("probes of places apart", Desks.probes(desk), "0 2 3");
        desk.weight(2, 1);
        desk.weight(3, 9);
        Due.due("tree of places apart, 2 and 3 heavy", Desks.edges(desk, 3), "0 0 1 0 1");
    }

    // Promise 6: "all counts are 0 then"
    private static void weightForgetsCounts() {
        Desk desk = Desks.counting();
        desk.run(0, 3);
        desk.run(0, 1000);
        Due.due("cut before weight", desk.covered(7), 1);
        Due.due("weight with what it was", desk.weight(0, 0), true);
        Due.due("counts after weight", Desks.counts(desk), "0 0 0 0");
        Due.due("paths after weight", Desks.pathCounts(desk), "0 0");
        Due.due("done after weight", Desks.dones(desk), "0 0");
        Due.due("cut after weight", desk.covered(7), 0);
        Due.due("last is from the latest run since build", desk.last(2), 100);
    }

    // Promise 6: "false .. if there is no such edge"
    private static void weightOfEdgesThatAreThere() {
        Desk desk = diamond();
        for (int edge = 0; edge < 6; edge++) {
            Due.due("weight(" + edge + ", 9) of 6", desk.weight(edge, 9), true);
            Due.due("weight of edge " + edge, desk.edge(edge, 5), 9);
        }
        for (int edge : new int[] {-1, 6, 36, 37, MIN, MAX}) {
            Due.due("weight(" + edge + ", 9) of 6", desk.weight(edge, 9), false);
        }
        Desk greatest = Desks.greatest();
        Due.due("weight(36, 9) of 37", greatest.weight(36, 9), true);
        Due.due("weight(37, 9) of 37", greatest.weight(37, 9), false);
    }

    // Promise 9
    private static void edgeAnswers() {
        Desk desk = diamond();
        Due.due("from", Desks.edges(desk, 0), "0 0 1 2 3 -1");
        Due.due("exit", Desks.edges(desk, 1), "0 1 0 0 0 0");
        Due.due("to", Desks.edges(desk, 2), "1 2 3 3 -1 0");
        Due.due("back", Desks.edges(desk, 4), "0 0 0 0 0 0");
    }

    // Promise 9: "NONE if there is none"
    private static void edgesThatAreThere() {
        Desk desk = diamond();
        for (int what = 0; what <= 5; what++) {
            for (int edge : new int[] {-1, 6, 36, 37, MIN, MAX}) {
                Due.due("edge(" + edge + ", " + what + ")", desk.edge(edge, what), CoverDesk.NONE);
            }
        }
        Due.due("edge(0, 2)", desk.edge(0, 2), 1);
        Due.due("edge(5, 2)", desk.edge(5, 2), 0);
        Desk greatest = Desks.greatest();
        Due.due("edge(36, 2) of 37", greatest.edge(36, 2), 0);
        Due.due("edge(37, 2) of 37", greatest.edge(37, 2), CoverDesk.NONE);
    }

    // Promise 9: "or for others"
    private static void whatFrom0To5() {
        Desk desk = Desks.counting();
        desk.weight(0, 8);
        int[] due = {0, 0, 0, 0, 1, 8};
        for (int what = 0; what <= 5; what++) {
            Due.due("edge(0, " + what + ")", desk.edge(0, what), due[what]);
        }
        for (int what : new int[] {-1, 6, MIN, MAX}) {
            for (int edge = 0; edge < 4; edge++) {
                Due.due("edge(" + edge + ", " + what + ")", desk.edge(edge, what), CoverDesk.NONE);
            }
        }
    }

    // Promise 9: "-1 outside"; promise 18: "of the OUT edge what 1 is 0"
    private static void outEdge() {
        Desk desk = Desks.built(new int[] {0, 0, 2, 1, 0}, new int[] {0, 0, 0});
        int[] due = {-1, 0, 0, 1, 0, 0};
        for (int what = 0; what <= 5; what++) {
            Due.due("OUT's edge(3, " + what + ")", desk.edge(3, what), due[what]);
        }
        Due.due("from where END leads", desk.edge(2, 0), 1);
        Due.due("to where END leads", desk.edge(2, 2), -1);
    }

    // "an edge is BACK if its target is a block into which one has gone and from which one has not gone back"
    private static void backEdges() {
        // 0 to 1; 1 to 1 (back) or 2; 2 to 0 (back), 1 (back) or 3; 3 to 4; 4 ends.
        Desk desk = Desks.built(new int[] {0, 0, 1, 1}, new int[] {0, 0, 2, 1, 2}, new int[] {0, 0, 5, 0, 1, 3},
                new int[] {0, 0, 1, 4}, new int[] {0, 0, 0});
        Due.due("back", Desks.edges(desk, 4), "0 1 0 1 1 0 0 0 0");
    }

    private static void backEdgesFollowTheOrderOfExits() {
        // 1 and 2 go to each other: which of these edges is back depends on where 0 goes first.
        int[][] rest = {{0, 0, 2, 2, 3}, {0, 0, 2, 1, 3}, {0, 0, 0}};
        Desk oneFirst = Desks.built(new int[] {0, 0, 2, 1, 2}, rest[0], rest[1], rest[2]);
        Due.due("back, 1 first", Desks.edges(oneFirst, 4), "0 0 0 0 1 0 0 0");
        Desk twoFirst = Desks.built(new int[] {0, 0, 2, 2, 1}, rest[0], rest[1], rest[2]);
        Due.due("back, 2 first", Desks.edges(twoFirst, 4), "0 0 1 0 0 0 0 0");
    }

    // "and back when its exits are through"
    private static void backWhileOneHasNotGoneBack() {
        // 0 to 2 or 1; 2 ends; 1 to 2: one has gone back from 2 by then.
        Desk across = Desks.built(new int[] {0, 0, 2, 2, 1}, new int[] {0, 0, 1, 2}, new int[] {0, 0, 0});
        Due.due("not back, since one has gone back", Desks.edges(across, 4), "0 0 0 0 0");
        // As before, but 2 goes to 1, and 1 from within 2 to 2.
        Desk within = Desks.built(new int[] {0, 0, 2, 2, 1}, new int[] {0, 0, 1, 2}, new int[] {0, 0, 1, 1});
        Due.due("back, since one has not gone back", Desks.edges(within, 4), "0 0 1 0 0");
        // The last exit of 0 leads to 0: one has not gone back from 0 before it is through.
        Desk last = Desks.built(new int[] {0, 0, 5, 1, 1, 0}, new int[] {0, 0, 0});
        Due.due("back by the last exit", Desks.edges(last, 4), "0 0 1 0 0");
        // The longest way in: each of 12 blocks to the next one, and the last one to the first.
        Desk ring = Desks.withBlocks(12);
        for (int i = 0; i < 12; i++) {
            ring.exits(i, 2, (i + 1) % 12, i, 0);
        }
        ring.build();
        Due.due("back in a ring of 12", Desks.edges(ring, 4), "0 1 0 1 0 1 0 1 0 1 0 1 0 1 0 1 0 1 0 1 0 1 1 1 0");
    }

    // "(Edges of blocks that are not met are none.)"
    private static void edgesOfUnmetBlocksAreNotBack() {
        Desk desk = Desks.built(new int[] {0, 0, 0}, new int[] {0, 0, 1, 1}, new int[] {0, 0, 2, 1, 0});
        Due.due("back of blocks that are not met", Desks.edges(desk, 4), "0 0 0 0 0");
        Due.due("paths without blocks that are not met", desk.covered(4), 1);
        desk.exits(0, 1, 2, 0, 0);
        desk.build();
        Due.due("back of the same blocks, met", Desks.edges(desk, 4), "0 1 0 1 0");
        Due.due("paths with blocks that are met", desk.covered(4), 3);
        desk.exits(0, 0, 0, 0, 0);
        desk.build();
        Due.due("back of the same blocks, not met again", Desks.edges(desk, 4), "0 0 0 0 0");
    }

    // Promise 10: "by number"; "All other edges have PROBES."
    private static void probesByNumber() {
        Desk desk = diamond();
        Due.due("probes", Desks.probes(desk), "3 4");
        Due.due("covered(6)", desk.covered(6), 2);
        desk.weight(4, 1);
        Due.due("probes, 4 heavy", Desks.probes(desk), "2 3");
    }

    // Promise 10: "The k-th (0 first) ..; NONE if there is none"
    private static void probesThatAreThere() {
        Desk desk = diamond();
        Due.due("probe(0)", desk.probe(0), 3);
        Due.due("probe(1)", desk.probe(1), 4);
        for (int k : new int[] {-1, 2, 3, MIN, MAX}) {
            Due.due("probe(" + k + ") of 2", desk.probe(k), CoverDesk.NONE);
        }
        // The fewest probes that a program has, and the most: 12 blocks apart, each three times to itself.
        Desk fewest = Desks.withBlocks(1);
        fewest.build();
        Due.due("fewest probes", Desks.probes(fewest), "0");
        Desk most = Desks.withBlocks(12);
        for (int i = 0; i < 12; i++) {
            most.exits(i, 5, i, i, i);
        }
        most.build();
        Due.due("most probes", most.covered(6), 36);
        Due.due("probe(35) of 36", most.probe(35), 35);
        Due.due("probe(36) of 36", most.probe(36), CoverDesk.NONE);
    }

    /** Why there are probes: what goes into a block leaves it, so those off a tree tell the others. */
    private static void probesTellAllCounts() {
        Desk desk = Desks.built(new int[] {1, 1, 2, 0, 1}, new int[] {0, 0, 5, 2, 3, 4}, new int[] {2, -2, 1, 5},
                new int[] {3, 0, 4, 5, 0}, new int[] {5, 7, 3, 5, 1}, new int[] {0, 0, 0});
        for (int x = -6; x <= 6; x++) {
            Due.due("run to 4", desk.run(x, 4), CoverDesk.OK);
            Due.due("run to 0", desk.run(x, 0), CoverDesk.OK);
        }
        int edges = 12;
        int[][] ends = new int[edges][2];
        int[] told = new int[edges];
        boolean[] known = new boolean[edges];
        for (int edge = 0; edge < edges; edge++) {
            ends[edge][0] = desk.edge(edge, 0);
            ends[edge][1] = desk.edge(edge, 2);
            known[edge] = desk.edge(edge, 3) == 0;
            told[edge] = known[edge] ? desk.count(edge) : 0;
        }
        for (int round = 0; round < edges; round++) {
            for (int place = -1; place < 6; place++) {
                tellLastUnknown(place, ends, told, known);
            }
        }
        for (int edge = 0; edge < edges; edge++) {
            Due.due("edge " + edge + " is told by probes", known[edge], true);
            Due.due("what probes tell of edge " + edge, told[edge], desk.count(edge));
        }
    }

    private static void tellLastUnknown(int place, int[][] ends, int[] told, boolean[] known) {
        int unknown = -1;
        int unknowns = 0;
        int balance = 0;
        for (int edge = 0; edge < told.length; edge++) {
            int sign = (ends[edge][1] == place ? 1 : 0) - (ends[edge][0] == place ? 1 : 0);
            if (sign != 0 && !known[edge]) {
                unknown = edge;
                unknowns++;
            }
            balance += known[edge] ? sign * told[edge] : 0;
        }
        if (unknowns == 1) {
            told[unknown] = ends[unknown][1] == place ? -balance : balance;
            known[unknown] = true;
        }
    }
}
