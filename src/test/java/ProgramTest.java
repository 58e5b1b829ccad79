/** Promises 1 to 5: a new object, block, exits, clear and build. */
public final class ProgramTest {
    public static void main(String[] args) {
        newObject();
        blocksAreNumbered();
        blocksAreRefused();
        newBlockEnds();
        exitsAreSet();
        exitsAreRefused();
        onlyUsedTargetsAreLookedAt();
        refusedExitsChangeNothing();
        clearRemovesBlocks();
        clearLeavesWhatIsBuilt();
        buildCountsEdges();
        buildIsRefused();
        refusedBuildChangesNothing();
        buildBeginsAnew();
        whatIsBuiltIsACopy();
        greatestProgram();
        Due.finish();
    }

    // Promise 1
    private static void newObject() {
        CoverDesk desk = new CoverDesk();
        Due.due("new: build()", desk.build(), CoverDesk.NONE);
        for (int i = -1; i <= 8; i++) {
            Due.due("new: last", desk.last(i), 0);
            Due.due("new: covered", desk.covered(i), CoverDesk.NONE);
            Due.due("new: count", desk.count(i), CoverDesk.NONE);
            Due.due("new: done", desk.done(i), CoverDesk.NONE);
            Due.due("new: probe", desk.probe(i), CoverDesk.NONE);
            Due.due("new: path", desk.path(i), CoverDesk.NONE);
            Due.due("new: pathEdge", desk.pathEdge(i, 0), CoverDesk.NONE);
            Due.due("new: edge", desk.edge(i, 0), CoverDesk.NONE);
            Due.due("new: edge's weight", desk.edge(i, 5), CoverDesk.NONE);
            Due.due("new: weight", desk.weight(i, 1), false);
            Due.due("new: dump", desk.dump(i), false);
            Due.due("new: merge", desk.merge(i), false);
            Due.due("new: exits", desk.exits(i, 0, 0, 0, 0), false);
        }
        Due.due("new: run(1, 2)", desk.run(1, 2), CoverDesk.NONE);
        Due.due("new: last(0) after a refused run", desk.last(0), 0);
        Due.due("new: clear()", desk.clear(), 0);
    }

    // Promise 2
    private static void blocksAreNumbered() {
        CoverDesk desk = new CoverDesk();
        for (int i = 0; i < 12; i++) {
            Due.due("block " + i, desk.block(i % 8, i - 6), i);
        }
        Due.due("block 12", desk.block(0, 0), CoverDesk.NONE);
        Due.due("build of 12", desk.build(), 13);
        Due.due("clear of 12", desk.clear(), 12);
        Due.due("block after clear", desk.block(0, 0), 0);
    }

    private static void blocksAreRefused() {
        CoverDesk desk = new CoverDesk();
        int[] ops = {-1, 8, Integer.MIN_VALUE, Integer.MAX_VALUE};
        for (int op : ops) {
            Due.due("block(" + op + ", 0)", desk.block(op, 0), CoverDesk.NONE);
        }
        Due.due("clear() after refused blocks", desk.clear(), 0);
        Due.due("block(7, MIN)", desk.block(7, Integer.MIN_VALUE), 0);
    }

    private static void newBlockEnds() {
        CoverDesk desk = Desks.built(new int[] {0, 0, 5, 0, 0, 0});
        desk.clear();
        desk.block(0, 0);
        Due.due("build of a block in the place of another", desk.build(), 2);
        Due.due("where a new block leads", desk.edge(0, 2), -1);
        Due.due("run of a new block", desk.run(0, 0), CoverDesk.OK);
    }

    // Promise 3
    private static void exitsAreSet() {
        CoverDesk desk = Desks.built(new int[] {0, 0, 1, 1}, new int[] {0, 0, 2, 2, 3}, new int[] {0, 0, 3, 3, 0},
                new int[] {0, 0, 4, 4, 3}, new int[] {0, 0, 5, 0, 4, 5}, new int[] {0, 0, 0});
        Due.due("from", Desks.edges(desk, 0), "0 1 1 2 2 3 3 4 4 4 5 -1");
        Due.due("exit", Desks.edges(desk, 1), "0 0 1 0 1 0 1 0 1 2 0 0");
        Due.due("to", Desks.edges(desk, 2), "1 2 3 3 0 4 3 0 4 5 -1 0");
        Due.due("exits set anew", desk.exits(4, 0, 0, 0, 0), true);
        desk.build();
        Due.due("to, after block 4 ends", Desks.edges(desk, 2), "1 2 3 3 0 4 3 -1 -1 0");
    }

    private static void exitsAreRefused() {
        CoverDesk desk = new CoverDesk();
        desk.block(0, 0);
        desk.block(0, 0);
        int[] wrong = {-1, 2, 11, 12, Integer.MIN_VALUE, Integer.MAX_VALUE};
        for (int block : wrong) {
            Due.due("exits of block " + block, desk.exits(block, 1, 0, 0, 0), false);
        }
        int[] wrongKinds = {-1, 6, Integer.MIN_VALUE, Integer.MAX_VALUE};
        for (int kind : wrongKinds) {
            Due.due("exits of kind " + kind, desk.exits(0, kind, 0, 0, 0), false);
        }
        int[] wrongTargets = {-1, 12, Integer.MIN_VALUE, Integer.MAX_VALUE};
        for (int target : wrongTargets) {
            for (int kind = 1; kind <= 5; kind++) {
                Due.due("first target " + target + " of kind " + kind, desk.exits(0, kind, target, 0, 0), false);
                if (kind >= 2) {
                    Due.due("second target " + target + " of kind " + kind, desk.exits(0, kind, 0, target, 0), false);
                }
            }
            Due.due("third target " + target, desk.exits(0, 5, 0, 0, target), false);
        }
        Due.due("build() after refused exits", desk.build(), 3);
    }

    private static void onlyUsedTargetsAreLookedAt() {
        CoverDesk desk = new CoverDesk();
        desk.block(0, 0);
        Due.due("END", desk.exits(0, 0, 12, -1, 99), true);
        Due.due("build() with END", desk.build(), 2);
        Due.due("GO", desk.exits(0, 1, 0, -1, 99), true);
        Due.due("build() with GO", desk.build(), 2);
        for (int kind = 2; kind <= 4; kind++) {
            Due.due("IF " + kind, desk.exits(0, kind, 0, 0, 12), true);
            Due.due("build() with IF " + kind, desk.build(), 3);
        }
        Due.due("SWITCH", desk.exits(0, 5, 0, 0, 0), true);
        Due.due("build() with SWITCH", desk.build(), 4);
        Due.due("GO to 11", desk.exits(0, 1, 11, 0, 0), true);
        Due.due("GO with a second of 11", desk.exits(0, 1, 0, 11, 11), true);
        Due.due("build() where only unused targets are not there", desk.build(), 2);
    }

    private static void refusedExitsChangeNothing() {
        CoverDesk desk = new CoverDesk();
        Desks.write(desk, new int[] {0, 0, 5, 0, 1, 2}, new int[] {0, 0, 0}, new int[] {0, 0, 0});
        desk.exits(0, 1, 12, 0, 0);
        desk.exits(0, 5, 2, 2, 12);
        desk.exits(0, 5, 2, -1, 2);
        desk.exits(0, 2, 1, 12, 0);
        desk.exits(0, 6, 2, 2, 2);
        Due.due("build() after refused exits", desk.build(), 6);
        Due.due("targets after refused exits", Desks.edges(desk, 2), "0 1 2 -1 -1 0");
    }

    // Promise 4
    private static void clearRemovesBlocks() {
        CoverDesk desk = new CoverDesk();
        desk.block(0, 0);
        desk.block(0, 0);
        desk.block(0, 0);
        Due.due("clear() of 3", desk.clear(), 3);
        Due.due("clear() of none", desk.clear(), 0);
        Due.due("exits after clear", desk.exits(0, 0, 0, 0, 0), false);
        Due.due("build() after clear", desk.build(), CoverDesk.NONE);
    }

    private static void clearLeavesWhatIsBuilt() {
        CoverDesk desk = Desks.counting();
        desk.run(0, 3);
        desk.dump(1);
        desk.run(0, 2);
        String before = Desks.shown(desk);
        Due.due("clear()", desk.clear(), 2);
        Due.due("what is built, after clear", Desks.shown(desk), before);
        Due.due("run after clear", desk.run(0, 3), CoverDesk.OK);
        Due.due("merge after clear", desk.merge(1), true);
        Due.due("counts after clear", Desks.counts(desk), "5 3 3 3");
    }

    // Promise 5
    private static void buildCountsEdges() {
        CoverDesk desk = new CoverDesk();
        desk.block(0, 0);
        int[] due = {2, 2, 3, 3, 3, 4};
        for (int kind = 0; kind <= 5; kind++) {
            desk.exits(0, kind, 0, 0, 0);
            Due.due("build() of kind " + kind, desk.build(), due[kind]);
        }
    }

    private static void buildIsRefused() {
        CoverDesk desk = new CoverDesk();
        desk.block(0, 0);
        desk.block(0, 0);
        desk.exits(1, 1, 2, 0, 0);
        Due.due("build() with GO to 2 of 2", desk.build(), CoverDesk.NONE);
        desk.exits(1, 2, 1, 2, 0);
        Due.due("build() with IF to 2 of 2", desk.build(), CoverDesk.NONE);
        desk.exits(1, 5, 1, 1, 11);
        Due.due("build() with SWITCH to 11 of 2", desk.build(), CoverDesk.NONE);
        Due.due("covered(0) after refused builds", desk.covered(0), CoverDesk.NONE);
        desk.exits(1, 5, 1, 1, 2);
        desk.block(0, 0);
        Due.due("build() as soon as block 2 is there", desk.build(), 6);
    }

    private static void refusedBuildChangesNothing() {
        CoverDesk desk = Desks.counting();
        desk.weight(2, 5);
        desk.run(0, 3);
        desk.dump(0);
        desk.run(0, 3);
        String before = Desks.shown(desk);
        desk.exits(1, 1, 11, 0, 0);
        Due.due("build() to 11", desk.build(), CoverDesk.NONE);
        Due.due("what is built, after a refused build", Desks.shown(desk), before);
        desk.clear();
        Due.due("build() of nothing", desk.build(), CoverDesk.NONE);
        Due.due("what is built, after build of nothing", Desks.shown(desk), before);
        Due.due("merge after refused builds", desk.merge(0), true);
    }

    private static void buildBeginsAnew() {
        CoverDesk desk = Desks.counting();
        String fresh = Desks.shown(desk);
        desk.weight(1, 7);
        desk.weight(3, -7);
        desk.run(0, 5);
        desk.run(0, 500);
        Due.due("build() again", desk.build(), 4);
        Due.due("weights, counts and last after build", Desks.shown(desk), fresh);
    }

    private static void whatIsBuiltIsACopy() {
        CoverDesk desk = Desks.counting();
        String before = Desks.shown(desk);
        desk.exits(0, 0, 0, 0, 0);
        desk.block(0, 0);
        Due.due("what is built, after blocks were changed", Desks.shown(desk), before);
        desk.run(0, 3);
        Due.due("counts of what is built", Desks.counts(desk), "2 1 1 1");
        desk.clear();
        desk.block(5, 77);
        desk.run(0, 3);
        Due.due("last(0) of what is built", desk.last(0), 3);
    }

    private static void greatestProgram() {
        CoverDesk desk = new CoverDesk();
        for (int i = 0; i < 12; i++) {
            desk.block(1, 1);
        }
        for (int i = 0; i < 12; i++) {
            desk.exits(i, 5, 11, 0, i);
        }
        Due.due("build() of 12 SWITCHes", desk.build(), 37);
        Due.due("OUT edge's from", desk.edge(36, 0), -1);
        Due.due("last edge of blocks", desk.edge(35, 0), 11);
        Due.due("edge 37", desk.edge(37, 0), CoverDesk.NONE);
        Due.due("covered(2)", desk.covered(2), 36);
        Due.due("run", desk.run(0, 0), CoverDesk.CUT);
    }
}
