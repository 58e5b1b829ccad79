/** Promises 14 and 15: the paths, their order, edges and counts, and MANY of them. */
public final class PathTest {
    public static void main(String[] args) {
        pathsOfADiamond();
        pathsFromBackEdgesOn();
        pathsAreOrderedByBegin();
        twoExitsToOneBlockAreTwoPaths();
        longestPath();
        pathsOfTheGreatestProgram();
        whatIsCutOffIsNone();
        pathsAreRefused();
        threeHundredAreNotMany();
        oneMoreIsMany();
        manyFromSeveralBegins();
        Due.finish();
    }

    private static void paths(CoverDesk desk, String... due) {
        Due.due("covered(4)", desk.covered(4), due.length);
        for (int k = 0; k < due.length; k++) {
            Due.due("edges of path " + k, Desks.pathEdges(desk, k), due[k]);
        }
        Due.due("path behind the last", desk.path(due.length), CoverDesk.NONE);
        Due.due("pathEdge behind the last", desk.pathEdge(due.length, 0), CoverDesk.NONE);
    }

    private static void pathsOfADiamond() {
        // 0 to 2, 1 or 3; 1 to 3; 2 to 3; 3 ends.
        CoverDesk desk = Desks.built(new int[] {0, 0, 5, 2, 1, 3}, new int[] {0, 0, 1, 3}, new int[] {0, 0, 1, 3}, new int[] {0, 0, 0});
        paths(desk, "0 4 5", "1 3 5", "2 5");
        Due.due("counts at first", Desks.pathCounts(desk), "0 0 0");
        for (int x = 0; x < 5; x++) {
            desk.run(x, 0);
        }
        Due.due("counts", Desks.pathCounts(desk), "2 2 1");
        Due.due("covered(5)", desk.covered(5), 3);
    }

    private static void pathsFromBackEdgesOn() {
        // 0 to 1; 1 counts X up and goes to 2 while it is below Y, else it goes to 3; 2 goes back to 1; 3 ends.
        CoverDesk desk = Desks.built(new int[] {0, 0, 1, 1}, new int[] {1, 1, 2, 2, 3}, new int[] {0, 0, 1, 1}, new int[] {0, 0, 0});
        Due.due("back", Desks.edges(desk, 4), "0 0 0 1 0 0");
        paths(desk, "0 1 3", "0 2 4", "1 3", "2 4");
        desk.run(0, 4);
        Due.due("counts, three times round", Desks.pathCounts(desk), "1 0 2 1");
        desk.run(0, 0);
        Due.due("counts, and straight on", Desks.pathCounts(desk), "1 1 2 1");
        desk.run(0, 2);
        Due.due("counts, and once round", Desks.pathCounts(desk), "2 1 2 2");
        Due.due("covered(5)", desk.covered(5), 4);
    }

    private static void pathsAreOrderedByBegin() {
        // 0 to 3; 3 to 2; 2 to 1; 1 to 3 (back), 2 (back) or 0 (back).
        CoverDesk desk = Desks.built(new int[] {0, 0, 1, 3}, new int[] {0, 0, 5, 3, 2, 0}, new int[] {0, 0, 1, 1}, new int[] {0, 0, 1, 2});
        Due.due("back", Desks.edges(desk, 4), "0 1 1 1 0 0 0");
        paths(desk, "0 5 4 1", "0 5 4 2", "0 5 4 3", "4 1", "4 2", "4 3", "5 4 1", "5 4 2", "5 4 3");
        desk.run(1, 0);
        Due.due("counts, by edge 2 round and round", Desks.pathCounts(desk), "0 1 0 0 47 0 0 0 0");
    }

    private static void twoExitsToOneBlockAreTwoPaths() {
        CoverDesk desk = Desks.built(new int[] {0, 0, 3, 1, 1}, new int[] {0, 0, 4, 0, 0});
        paths(desk, "0 2", "0 3", "1 2", "1 3");
        desk.run(0, 0);
        Due.due("counts", Desks.pathCounts(desk), "0 0 49 0");
    }

    private static void longestPath() {
        CoverDesk desk = new CoverDesk();
        for (int i = 0; i < 12; i++) {
            desk.block(0, 0);
            desk.exits(i, 1, (i + 1) % 12, 0, 0);
        }
        desk.build();
        paths(desk, "0 1 2 3 4 5 6 7 8 9 10 11");
        Due.due("run", desk.run(0, 0), CoverDesk.CUT);
        Due.due("path(0)", desk.path(0), 8);
    }

    private static void pathsOfTheGreatestProgram() {
        // 12 SWITCHes, each to the next one or, by two exits, to itself; the last one to itself by all three.
        CoverDesk desk = new CoverDesk();
        for (int i = 0; i < 12; i++) {
            desk.block(0, 0);
            desk.exits(i, 5, Math.min(i + 1, 11), i, i);
        }
        Due.due("build()", desk.build(), 37);
        Due.due("covered(4)", desk.covered(4), 168);
        Due.due("edges of path 0", Desks.pathEdges(desk, 0), "0 3 6 9 12 15 18 21 24 27 30 33");
        Due.due("edges of path 24, the last one from block 0", Desks.pathEdges(desk, 24), "2");
        Due.due("edges of path 25, the first one from block 1", Desks.pathEdges(desk, 25), "3 6 9 12 15 18 21 24 27 30 33");
        Due.due("edges of path 167", Desks.pathEdges(desk, 167), "35");
        desk.run(0, 0);
        Due.due("path(0)", desk.path(0), 1);
        Due.due("path(165)", desk.path(165), 87);
        desk.run(2, 0);
        Due.due("path(24)", desk.path(24), 99);
    }

    private static void whatIsCutOffIsNone() {
        CoverDesk desk = Desks.counting();
        paths(desk, "0", "1 2");
        desk.run(0, 99);
        Due.due("counts, cut before END", Desks.pathCounts(desk), "98 0");
        desk.run(0, 98);
        Due.due("counts, not cut", Desks.pathCounts(desk), "195 1");
    }

    private static void pathsAreRefused() {
        CoverDesk desk = Desks.counting();
        desk.run(0, 3);
        int[] wrong = {-1, 2, 299, 300, Integer.MIN_VALUE, Integer.MAX_VALUE};
        for (int k : wrong) {
            Due.due("path(" + k + ")", desk.path(k), CoverDesk.NONE);
            Due.due("pathEdge(" + k + ", 0)", desk.pathEdge(k, 0), CoverDesk.NONE);
            Due.due("pathEdge(1, " + k + ")", desk.pathEdge(1, k), CoverDesk.NONE);
        }
        Due.due("pathEdge(0, 1)", desk.pathEdge(0, 1), CoverDesk.NONE);
    }

    /** 3 * 2 * 2 * 5 * 5 = 300 paths: a pair of blocks that makes 5 goes on by two exits, or to one that has three. */
    private static CoverDesk threeHundred() {
        return Desks.built(new int[] {1, 1, 5, 1, 1, 1}, new int[] {1, 1, 3, 2, 2}, new int[] {1, 1, 4, 3, 3},
                new int[] {0, 0, 5, 5, 5, 4}, new int[] {0, 0, 5, 5, 5, 5},
                new int[] {0, 0, 5, 7, 7, 6}, new int[] {0, 0, 5, 7, 7, 7}, new int[] {0, 0, 0});
    }

    private static void threeHundredAreNotMany() {
        CoverDesk desk = threeHundred();
        Due.due("covered(4) of 300", desk.covered(4), 300);
        Due.due("covered(5) of 300", desk.covered(5), 0);
        Due.due("edges of path 0", Desks.pathEdges(desk, 0), "0 3 5 7 13 19");
        Due.due("edges of path 299", Desks.pathEdges(desk, 299), "2 4 6 9 12 15 18 19");
        Due.due("path(299)", desk.path(299), 0);
        Due.due("path(300)", desk.path(300), CoverDesk.NONE);
        // X is 1, 2 and 3: exits 1, 1 and 1, and then 0 for good.
        Due.due("run", desk.run(0, 0), CoverDesk.OK);
        Due.due("edges of path 175", Desks.pathEdges(desk, 175), "1 4 6 7 13 19");
        Due.due("path(175)", desk.path(175), 1);
        Due.due("covered(5)", desk.covered(5), 1);
        // X is 0, 1 and 2: exits 0, 0, 1, and then 2 for good.
        desk.run(-1, 0);
        Due.due("edges of path 49", Desks.pathEdges(desk, 49), "0 3 6 9 12 15 18 19");
        Due.due("path(49)", desk.path(49), 1);
        Due.due("covered(5) of two", desk.covered(5), 2);
    }

    private static void oneMoreIsMany() {
        CoverDesk desk = threeHundred();
        desk.exits(7, 1, 8, 0, 0);
        desk.block(0, 0);
        desk.exits(8, 1, 8, 0, 0);
        desk.build();
        Due.due("covered(4) of 300 and one from block 8 on", desk.covered(4), CoverDesk.MANY);
        Due.due("covered(5)", desk.covered(5), CoverDesk.MANY);
        Due.due("path(0)", desk.path(0), CoverDesk.NONE);
        Due.due("path(300)", desk.path(300), CoverDesk.NONE);
        Due.due("pathEdge(0, 0)", desk.pathEdge(0, 0), CoverDesk.NONE);
        Due.due("run", desk.run(0, 0), CoverDesk.CUT);
        Due.due("covered(5) after a run", desk.covered(5), CoverDesk.MANY);
        Due.due("covered(1) after a run", desk.covered(1), 7);
        Due.due("path(0) after a run", desk.path(0), CoverDesk.NONE);
        Due.due("dump of MANY", desk.dump(0), true);
        desk.run(-1, 0);
        Due.due("merge of MANY", desk.merge(0), true);
        Due.due("covered(7)", desk.covered(7), 2);
        desk.exits(8, 0, 0, 0, 0);
        desk.build();
        Due.due("covered(4) of 300 again", desk.covered(4), 300);
        Due.due("covered(5) of 300 again", desk.covered(5), 0);
    }

    private static void manyFromSeveralBegins() {
        // 12 blocks that go on by three exits, the last one back to all: the most paths that a program has.
        CoverDesk desk = new CoverDesk();
        for (int i = 0; i < 12; i++) {
            desk.block(1, 1);
            int to = i == 11 ? 0 : i + 1;
            desk.exits(i, 5, to, to, i == 11 ? 1 : to);
        }
        Due.due("build()", desk.build(), 37);
        Due.due("covered(4)", desk.covered(4), CoverDesk.MANY);
        Due.due("run", desk.run(5, 0), CoverDesk.CUT);
        Due.due("done(0) and done(1)", desk.done(0) + desk.done(1) > 8, true);
        Due.due("path(0)", desk.path(0), CoverDesk.NONE);
    }
}
