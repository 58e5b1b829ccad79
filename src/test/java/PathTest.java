/** Promises 14 and 15: the paths, their order, edges and counts, and MANY of them. */
public final class PathTest {
    private static final int MIN = Integer.MIN_VALUE;
    private static final int MAX = Integer.MAX_VALUE;

    public static void main(String[] args) {
        pathsOfADiamond();
        pathsFromBackEdgesOn();
        pathsAreOrderedByBegin();
        pathsAreOrderedByExits();
        twoExitsToOneBlockAreTwoPaths();
        shortestPath();
        longestPath();
        pathsOfTheGreatestProgram();
        whatIsCutOffIsNone();
        cutBehindABackEdge();
        pathsThatAreThere();
        edgesOfAPathThatAreThere();
        threeHundredAreNotMany();
        threeHundredAreCountedInDumps();
        oneMoreIsMany();
        threeHundredFromSeveralBegins();
        manyAreCountedOtherwise();
        mostPaths();
        Due.finish();
    }

    private static void paths(Desk desk, String... due) {
        Due.due("covered(4)", desk.covered(4), due.length);
        for (int k = 0; k < due.length; k++) {
            Due.due("edges of path " + k, Desks.pathEdges(desk, k), due[k]);
        }
        Due.due("path behind the last", desk.path(due.length), CoverDesk.NONE);
        Due.due("pathEdge behind the last", desk.pathEdge(due.length, 0), CoverDesk.NONE);
    }

    private static void pathsOfADiamond() {
        // 0 to 2, 1 or 3; 1 to 3; 2 to 3; 3 ends.
        Desk desk = Desks.built(new int[] {0, 0, 5, 2, 1, 3}, new int[] {0, 0, 1, 3}, new int[] {0, 0, 1, 3}, new int[] {0, 0, 0});
        paths(desk, "0 4 5", "1 3 5", "2 5");
        Due.due("counts at first", Desks.pathCounts(desk), "0 0 0");
        for (int x = 0; x < 5; x++) {
            desk.run(x, 0);
        }
        Due.due("counts", Desks.pathCounts(desk), "2 2 1");
        Due.due("covered(5)", desk.covered(5), 3);
    }

    private static void pathsFromBackEdgesOn() {
        // 0 to 1; 1 counts X up and goes to 2 while it is below Y, else it goes to 3; 2 goes back to 1; 3 ends.
        Desk desk = Desks.built(new int[] {0, 0, 1, 1}, new int[] {1, 1, 2, 2, 3}, new int[] {0, 0, 1, 1}, new int[] {0, 0, 0});
        Due.due("back", Desks.edges(desk, 4), "0 0 0 1 0 0");
        paths(desk, "0 1 3", "0 2 4", "1 3", "2 4");
        desk.run(0, 4);
        Due.due("counts, three times round", Desks.pathCounts(desk), "1 0 2 1");
        desk.run(0, 0);
        Due.due("counts, and straight on", Desks.pathCounts(desk), "1 1 2 1");
        desk.run(0, 2);
        Due.due("counts, and once round", Desks.pathCounts(desk), "2 1 2 2");
        Due.due("covered(5)", desk.covered(5), 4);
    }

    private static void pathsAreOrderedByBegin() {
        // 0 to 3; 3 to 2; 2 to 1; 1 to 3 (back), 2 (back) or 0 (back).
        Desk desk = Desks.built(new int[] {0, 0, 1, 3}, new int[] {0, 0, 5, 3, 2, 0}, new int[] {0, 0, 1, 1}, new int[] {0, 0, 1, 2});
        Due.due("back", Desks.edges(desk, 4), "0 1 1 1 0 0 0");
        paths(desk, "0 5 4 1", "0 5 4 2", "0 5 4 3", "4 1", "4 2", "4 3", "5 4 1", "5 4 2", "5 4 3");
        desk.run(1, 0);
        Due.due("counts, by edge 2 round and round", Desks.pathCounts(desk), "0 1 0 0 47 0 0 0 0");
    }

    // "ordered by their first blocks (by number), then by the first exits, then the second .."
    private static void pathsAreOrderedByExits() {
        // 0 to 2 or 1; 1 to 3 or 2; 2 to 3, to 0 (back) or to 3; 3 ends: not by the numbers of the blocks.
        Desk desk = Desks.built(new int[] {0, 0, 3, 2, 1}, new int[] {0, 0, 4, 3, 2}, new int[] {0, 0, 5, 3, 0, 3}, new int[] {0, 0, 0});
        paths(desk, "0 4 7", "0 5", "0 6 7", "1 2 7", "1 3 4 7", "1 3 5", "1 3 6 7");
        Due.due("run by 1, 3 and 6", desk.run(2, 0), CoverDesk.OK);
        Due.due("counts", Desks.pathCounts(desk), "0 0 0 0 0 0 1");
        Due.due("run by 0 and 4", desk.run(3, 0), CoverDesk.OK);
        Due.due("counts", Desks.pathCounts(desk), "1 0 0 0 0 0 1");
    }

    private static void twoExitsToOneBlockAreTwoPaths() {
        Desk desk = Desks.built(new int[] {0, 0, 3, 1, 1}, new int[] {0, 0, 4, 0, 0});
        paths(desk, "0 2", "0 3", "1 2", "1 3");
        desk.run(0, 0);
        Due.due("counts", Desks.pathCounts(desk), "0 0 49 0");
    }

    private static void shortestPath() {
        Desk desk = Desks.built(new int[] {0, 0, 0});
        paths(desk, "0");
        desk.run(0, 0);
        Due.due("path(0)", desk.path(0), 1);
    }

    private static void longestPath() {
        Desk desk = Desks.withBlocks(12);
        for (int i = 0; i < 12; i++) {
            desk.exits(i, 1, (i + 1) % 12, 0, 0);
        }
        desk.build();
        paths(desk, "0 1 2 3 4 5 6 7 8 9 10 11");
        Due.due("run", desk.run(0, 0), CoverDesk.CUT);
        Due.due("path(0)", desk.path(0), 8);
    }

    private static void pathsOfTheGreatestProgram() {
        Desk desk = Desks.greatest();
        Due.due("covered(4)", desk.covered(4), 168);
        Due.due("edges of path 0", Desks.pathEdges(desk, 0), "0 3 6 9 12 15 18 21 24 27 30 33");
        Due.due("edges of path 24, the last one from block 0", Desks.pathEdges(desk, 24), "2");
        Due.due("edges of path 25, the first one from block 1", Desks.pathEdges(desk, 25), "3 6 9 12 15 18 21 24 27 30 33");
        Due.due("edges of path 167", Desks.pathEdges(desk, 167), "35");
        desk.run(0, 0);
        Due.due("path(0)", desk.path(0), 1);
        Due.due("path(165)", desk.path(165), 87);
        desk.run(2, 0);
        Due.due("path(24)", desk.path(24), 99);
    }

    // "(What is cut off is none.)"
    private static void whatIsCutOffIsNone() {
        Desk desk = Desks.counting();
        paths(desk, "0", "1 2");
        desk.run(0, 99);
        Due.due("counts, cut before END", Desks.pathCounts(desk), "98 0");
        Due.due("covered(5), cut before END", desk.covered(5), 1);
        desk.run(0, 98);
        Due.due("counts, not cut", Desks.pathCounts(desk), "195 1");
        Due.due("covered(5), not cut", desk.covered(5), 2);
    }

    private static void cutBehindABackEdge() {
        // 3 blocks round and round, 99 exits: 33 times, and the 100th block is the first one of what is cut off.
        Desk three = Desks.built(new int[] {0, 0, 1, 1}, new int[] {0, 0, 1, 2}, new int[] {0, 0, 1, 0});
        Due.due("run of 3 blocks round", three.run(0, 0), CoverDesk.CUT);
        Due.due("path(0) of 3 edges", three.path(0), 33);
        // 4 blocks: the 100th one is the last one, and does not leave by the back edge any more.
        Desk four = Desks.built(new int[] {0, 0, 1, 1}, new int[] {0, 0, 1, 2}, new int[] {0, 0, 1, 3}, new int[] {0, 0, 1, 0});
        Due.due("run of 4 blocks round", four.run(0, 0), CoverDesk.CUT);
        Due.due("path(0) of 4 edges", four.path(0), 24);
        Due.due("count of the back edge", four.count(3), 24);
        Due.due("done of the last block", four.done(3), 25);
    }

    // Promise 14: "NONE if there is none"
    private static void pathsThatAreThere() {
        Desk desk = Desks.counting();
        desk.run(0, 3);
        Due.due("path(0) of 2", desk.path(0), 2);
        Due.due("path(1) of 2", desk.path(1), 1);
        for (int k : new int[] {-1, 2, 299, 300, 301, MIN, MAX}) {
            Due.due("path(" + k + ") of 2", desk.path(k), CoverDesk.NONE);
        }
    }

    // Promise 15: "NONE if there is none"
    private static void edgesOfAPathThatAreThere() {
        Desk desk = Desks.counting();
        Due.due("pathEdge(0, 0)", desk.pathEdge(0, 0), 0);
        Due.due("pathEdge(0, 1)", desk.pathEdge(0, 1), CoverDesk.NONE);
        Due.due("pathEdge(1, 0)", desk.pathEdge(1, 0), 1);
        Due.due("pathEdge(1, 1)", desk.pathEdge(1, 1), 2);
        Due.due("pathEdge(1, 2)", desk.pathEdge(1, 2), CoverDesk.NONE);
        for (int wrong : new int[] {-1, 2, 299, 300, 301, MIN, MAX}) {
            Due.due("pathEdge(" + wrong + ", 0)", desk.pathEdge(wrong, 0), CoverDesk.NONE);
            Due.due("pathEdge(0, " + wrong + ")", desk.pathEdge(0, wrong), CoverDesk.NONE);
            Due.due("pathEdge(1, " + wrong + ")", desk.pathEdge(1, wrong), CoverDesk.NONE);
        }
    }

    /**
     * 3 * 2 * 2 * 5 * 5 = 300 paths from block 0 on: a pair of blocks that makes 5 goes on by two exits, or to one
     * that has three. The last block goes to the one behind it, if another is wanted there, or ENDs.
     */
    private static Desk threeHundred(int kindOfLast) {
        Desk desk = new Desk();
        Desks.write(desk, new int[] {0, 0, 5, 1, 1, 1}, new int[] {0, 0, 3, 2, 2}, new int[] {0, 0, 4, 3, 3},
                new int[] {0, 0, 5, 5, 5, 4}, new int[] {0, 0, 5, 5, 5, 5},
                new int[] {0, 0, 5, 7, 7, 6}, new int[] {0, 0, 5, 7, 7, 7}, new int[] {0, 0, kindOfLast, 8});
        return desk;
    }

    // "If there are more than 300, there are MANY"
    private static void threeHundredAreNotMany() {
        Desk desk = threeHundred(0);
        desk.build();
        Due.due("covered(4) of 300", desk.covered(4), 300);
        Due.due("covered(5) of 300", desk.covered(5), 0);
        Due.due("edges of path 0", Desks.pathEdges(desk, 0), "0 3 5 7 13 19");
        Due.due("edges of path 131", Desks.pathEdges(desk, 131), "1 3 6 8 14 19");
        Due.due("edges of path 299", Desks.pathEdges(desk, 299), "2 4 6 9 12 15 18 19");
        Due.due("pathEdge(300, 0)", desk.pathEdge(300, 0), CoverDesk.NONE);
        Due.due("path(299)", desk.path(299), 0);
        Due.due("path(300)", desk.path(300), CoverDesk.NONE);
        // X is odd and 1 modulo 3, and then even and 2 modulo 3.
        Due.due("run(1, 0)", desk.run(1, 0), CoverDesk.OK);
        Due.due("path(131)", desk.path(131), 1);
        Due.due("covered(5) of one", desk.covered(5), 1);
        Due.due("run(2, 0)", desk.run(2, 0), CoverDesk.OK);
        Due.due("path(299), gone", desk.path(299), 1);
        Due.due("covered(5) of two", desk.covered(5), 2);
    }

    private static void threeHundredAreCountedInDumps() {
        Desk desk = threeHundred(0);
        desk.build();
        desk.run(2, 0);
        desk.dump(0);
        Due.due("path(299) after dump", desk.path(299), 0);
        desk.run(2, 0);
        desk.run(0, 0);
        desk.dump(1);
        desk.merge(0);
        Due.due("path(299) of dump 0", desk.path(299), 1);
        Due.due("path(50) of dump 0", desk.path(50), 0);
        desk.merge(1);
        Due.due("path(299) of both", desk.path(299), 2);
        Due.due("path(50) of both", desk.path(50), 1);
        Due.due("path(0) of both", desk.path(0), 0);
        Due.due("covered(7) of both", desk.covered(7), 0);
        Due.due("done(7) of both", desk.done(7), 3);
    }

    // "no path has a number or a count"; promise 18: "the answer is NONE also if there are MANY paths"
    private static void areMany(String when, Desk desk) {
        Due.due("covered(4) " + when, desk.covered(4), CoverDesk.MANY);
        Due.due("covered(5) " + when, desk.covered(5), CoverDesk.MANY);
        for (int k : new int[] {-1, 0, 1, 299, 300, 301, MIN, MAX}) {
            Due.due("path(" + k + ") " + when, desk.path(k), CoverDesk.NONE);
            Due.due("pathEdge(" + k + ", 0) " + when, desk.pathEdge(k, 0), CoverDesk.NONE);
        }
    }

    private static void oneMoreIsMany() {
        // 0 to 8, from which on there are 300 paths, or to 9, which ENDs.
        Desk desk = new Desk();
        Desks.write(desk, new int[] {0, 0, 2, 8, 9}, new int[] {0, 0, 3, 2, 2}, new int[] {0, 0, 4, 3, 3},
                new int[] {0, 0, 5, 5, 5, 4}, new int[] {0, 0, 5, 5, 5, 5}, new int[] {0, 0, 5, 7, 7, 6},
                new int[] {0, 0, 5, 7, 7, 7}, new int[] {0, 0, 0}, new int[] {0, 0, 5, 1, 1, 1}, new int[] {0, 0, 0});
        desk.build();
        areMany("of 301", desk);
        desk.run(2, 3);
        desk.run(3, 2);
        areMany("of 301 after runs", desk);
        desk.exits(0, 1, 8, 0, 0);
        desk.build();
        Due.due("covered(4) of 300", desk.covered(4), 300);
        Due.due("covered(5) of 300", desk.covered(5), 0);
        desk.run(2, 3);
        Due.due("path(299) of 300", desk.path(299), 1);
        desk.exits(0, 2, 8, 9, 0);
        desk.build();
        areMany("of 301 again", desk);
    }

    private static void threeHundredFromSeveralBegins() {
        // 2 * 3 * 5 * 5 = 150 paths from block 1 on, to which 7 goes back, and as many from 0 on, which goes to 1.
        Desk desk = Desks.built(new int[] {0, 0, 1, 1}, new int[] {0, 0, 3, 2, 2}, new int[] {0, 0, 5, 3, 3, 3},
                new int[] {0, 0, 5, 5, 5, 4}, new int[] {0, 0, 5, 5, 5, 5}, new int[] {0, 0, 5, 7, 7, 6},
                new int[] {0, 0, 5, 7, 7, 7}, new int[] {0, 0, 1, 1}, new int[] {0, 0, 0});
        Due.due("covered(4) of 150 and 150", desk.covered(4), 300);
        Due.due("edges of path 149", Desks.pathEdges(desk, 149), "0 2 5 8 11 14 17 18");
        Due.due("edges of path 150", Desks.pathEdges(desk, 150), "1 3 6 12 18");
        Due.due("edges of path 299", Desks.pathEdges(desk, 299), "2 5 8 11 14 17 18");
        // 8 blocks to the first way back, and 7 to each one more: 13 of these, and one block that is cut off.
        Due.due("run(2, 0)", desk.run(2, 0), CoverDesk.CUT);
        Due.due("path(149)", desk.path(149), 1);
        Due.due("path(299)", desk.path(299), 13);
        desk.exits(0, 2, 1, 8, 0);
        desk.build();
        areMany("of 151 and 150", desk);
        // 300 paths from block 0 on go into block 8, where one more begins.
        Desk more = threeHundred(1);
        Desks.write(more, new int[] {0, 0, 1, 8});
        more.build();
        areMany("of 300 and 1", more);
    }

    private static void manyAreCountedOtherwise() {
        Desk desk = threeHundred(1);
        Desks.write(desk, new int[] {0, 0, 1, 8});
        desk.build();
        Due.due("run", desk.run(1, 0), CoverDesk.CUT);
        Due.due("covered(1) after a run", desk.covered(1), 7);
        Due.due("dump of MANY", desk.dump(0), true);
        desk.run(2, 0);
        Due.due("merge of MANY", desk.merge(0), true);
        areMany("after merge", desk);
        Due.due("covered(7)", desk.covered(7), 2);
        Due.due("done(7)", desk.done(7), 2);
        Due.due("count of OUT", desk.count(21), 2);
    }

    private static void mostPaths() {
        // 12 blocks that go on by three exits, the last one back to 0 and 1: far more paths than have numbers.
        Desk desk = Desks.withBlocks(12);
        for (int i = 0; i < 12; i++) {
            int to = i == 11 ? 0 : i + 1;
            desk.exits(i, 5, to, to, i == 11 ? 1 : to);
        }
        Due.due("build()", desk.build(), 37);
        Due.due("run", desk.run(5, 0), CoverDesk.CUT);
        Due.due("done(0) and done(1)", desk.done(0) + " " + desk.done(1), "1 9");
        areMany("of the most paths", desk);
    }
}
