/** Promises 1 to 5: a new object, block, exits, clear and build. */
public final class ProgramTest {
    private static final int MIN = Integer.MIN_VALUE;
    private static final int MAX = Integer.MAX_VALUE;

    public static void main(String[] args) {
        newObjectHasNoBlocks();
        newObjectHasNothingBuilt();
        newObjectHasEmptyDumps();
        objectsAreApart();
        opsFrom0To7();
        blocksUpTo12();
        newBlockEnds();
        exitsAreSet();
        exitsOfBlocksThatAreThere();
        kindsFrom0To5();
        usedTargetsFrom0To11();
        unusedTargetsAreFree();
        clearTellsHowManyThereWere();
        clearRemovesBlocks();
        clearLeavesWhatIsBuilt();
        buildCountsEdges();
        buildNeedsABlock();
        buildNeedsTheBlocksThatAreLedTo();
        buildBeginsAnew();
        whatIsBuiltIsACopy();
        greatestProgram();
        Due.finish();
    }

    // Promise 1: "No blocks"
    private static void newObjectHasNoBlocks() {
        Due.due("clear() of a new object", new Desk().clear(), 0);
        Due.due("build() of a new object", new Desk().build(), CoverDesk.NONE);
        Due.due("exits on a new object", new Desk().exits(0, 0, 0, 0, 0), false);
        Desk desk = new Desk();
        Due.due("the first block", desk.block(0, 0), 0);
        Due.due("exits of the first block", desk.exits(0, 0, 0, 0, 0), true);
        Due.due("build() of the first block", desk.build(), 2);
        Due.due("clear() of the first block", desk.clear(), 1);
    }

    // Promise 1: "nothing built"; promise 6: "This and all below speak of what is built; without it nothing is there."
    private static void newObjectHasNothingBuilt() {
        Desk desk = new Desk();
        nothingIsBuilt(desk);
        desk.block(5, 7);
        nothingIsBuilt(desk);
        desk.build();
        Due.due("built: covered(0)", desk.covered(0), 1);
        Due.due("built: count(1)", desk.count(1), 0);
        Due.due("built: done(0)", desk.done(0), 0);
        Due.due("built: probe(0)", desk.probe(0), 0);
        Due.due("built: path(0)", desk.path(0), 0);
        Due.due("built: pathEdge(0, 0)", desk.pathEdge(0, 0), 0);
        Due.due("built: edge(1, 2)", desk.edge(1, 2), 0);
        Due.due("built: run(1, 2)", desk.run(1, 2), CoverDesk.OK);
        Due.due("built: last(0)", desk.last(0), 7);
        Due.due("built: dump(0)", desk.dump(0), true);
        Due.due("built: merge(0)", desk.merge(0), true);
        Due.due("built: weight(0, 1)", desk.weight(0, 1), true);
    }

    private static void nothingIsBuilt(Desk desk) {
        for (int i = -1; i <= 8; i++) {
            Due.due("nothing built: last", desk.last(i), 0);
            Due.due("nothing built: covered", desk.covered(i), CoverDesk.NONE);
            Due.due("nothing built: count", desk.count(i), CoverDesk.NONE);
            Due.due("nothing built: done", desk.done(i), CoverDesk.NONE);
            Due.due("nothing built: probe", desk.probe(i), CoverDesk.NONE);
            Due.due("nothing built: path", desk.path(i), CoverDesk.NONE);
            Due.due("nothing built: pathEdge", desk.pathEdge(i, 0), CoverDesk.NONE);
            Due.due("nothing built: edge", desk.edge(i, 0), CoverDesk.NONE);
            Due.due("nothing built: edge's weight", desk.edge(i, 5), CoverDesk.NONE);
            Due.due("nothing built: weight", desk.weight(i, 1), false);
            Due.due("nothing built: dump", desk.dump(i), false);
            Due.due("nothing built: merge", desk.merge(i), false);
        }
        Due.due("nothing built: run(1, 2)", desk.run(1, 2), CoverDesk.NONE);
    }

    // Promise 1: "empty dumps"
    private static void newObjectHasEmptyDumps() {
        Desk desk = Desks.counting();
        Due.due("merge(0), nothing dumped", desk.merge(0), false);
        Due.due("merge(1), nothing dumped", desk.merge(1), false);
        desk.dump(0);
        desk.dump(1);
        Due.due("merge(0), dumped", desk.merge(0), true);
        Due.due("merge(1), dumped", desk.merge(1), true);
    }

    private static void objectsAreApart() {
        Desk one = Desks.counting();
        Desk other = new Desk();
        one.run(0, 3);
        one.dump(0);
        Due.due("build() of another object", other.build(), CoverDesk.NONE);
        Due.due("covered(0) of another object", other.covered(0), CoverDesk.NONE);
        Due.due("merge(0) of another object", other.merge(0), false);
        Due.due("block of another object", other.block(0, 0), 0);
        other.build();
        other.run(8, 9);
        Due.due("last of the first object", one.last(1), 3);
        Due.due("merge(0) of the first object", one.merge(0), true);
        Due.due("counts of the first object", Desks.counts(one), "2 1 1 1");
    }

    // Promise 2: "NONE .. if op is not 0..7"
    private static void opsFrom0To7() {
        Desk desk = new Desk();
        for (int op = 0; op <= 7; op++) {
            Due.due("block(" + op + ", MIN)", desk.block(op, MIN), op);
        }
        for (int op : new int[] {-1, 8, MIN, MAX}) {
            Due.due("block(" + op + ", 0)", desk.block(op, 0), CoverDesk.NONE);
        }
        Due.due("block(7, MAX)", desk.block(7, MAX), 8);
    }

    // Promise 2: "Appends a block: its number", "or there are 12"; "A PROGRAM has up to 12 BLOCKS, 0 first"
    private static void blocksUpTo12() {
        Desk desk = new Desk();
        for (int i = 0; i < 12; i++) {
            Due.due("block number " + i, desk.block(0, 0), i);
        }
        for (int op = 0; op <= 7; op++) {
            Due.due("block(" + op + ", 0) behind 12", desk.block(op, 0), CoverDesk.NONE);
        }
        for (int i = 0; i < 12; i++) {
            desk.exits(i, i == 11 ? 0 : 1, i + 1, 0, 0);
        }
        Due.due("build() of 12", desk.build(), 13);
        Due.due("run through 12", desk.run(0, 0), CoverDesk.OK);
        Due.due("blocks done of 12", desk.last(2), 12);
        Due.due("clear() of 12", desk.clear(), 12);
        Due.due("block after clear", desk.block(0, 0), 0);
    }

    // Promise 2: "it ENDs at first"
    private static void newBlockEnds() {
        Desk desk = Desks.built(new int[] {0, 0, 5, 0, 0, 0});
        desk.clear();
        desk.block(0, 0);
        Due.due("build() of a block in the place of another", desk.build(), 2);
        Due.due("where a new block leads", desk.edge(0, 2), -1);
        Due.due("run of a new block", desk.run(0, 0), CoverDesk.OK);
    }

    // Promise 3
    private static void exitsAreSet() {
        Desk desk = Desks.built(new int[] {0, 0, 1, 1}, new int[] {0, 0, 2, 2, 3}, new int[] {0, 0, 3, 3, 0},
                new int[] {0, 0, 4, 4, 3}, new int[] {0, 0, 5, 0, 4, 5}, new int[] {0, 0, 0});
        Due.due("from", Desks.edges(desk, 0), "0 1 1 2 2 3 3 4 4 4 5 -1");
        Due.due("exit", Desks.edges(desk, 1), "0 0 1 0 1 0 1 0 1 2 0 0");
        Due.due("to", Desks.edges(desk, 2), "1 2 3 3 0 4 3 0 4 5 -1 0");
        Due.due("exits set anew", desk.exits(4, 0, 0, 0, 0), true);
        desk.build();
        Due.due("to, after block 4 ends", Desks.edges(desk, 2), "1 2 3 3 0 4 3 -1 -1 0");
    }

    // Promise 3: "false .. if there is no such block"
    private static void exitsOfBlocksThatAreThere() {
        for (int blocks = 0; blocks <= 12; blocks++) {
            Desk desk = Desks.withBlocks(blocks);
            for (int block = -1; block <= 13; block++) {
                boolean there = block >= 0 && block < blocks;
                Due.due("exits of block " + block + " of " + blocks, desk.exits(block, 1, 0, 0, 0), there);
            }
            Due.due("exits of block MIN", desk.exits(MIN, 1, 0, 0, 0), false);
            Due.due("exits of block MAX", desk.exits(MAX, 1, 0, 0, 0), false);
        }
    }

    // Promise 3: "or kind"
    private static void kindsFrom0To5() {
        Desk desk = Desks.withBlocks(1);
        for (int kind = 0; kind <= 5; kind++) {
            Due.due("exits of kind " + kind, desk.exits(0, kind, 0, 0, 0), true);
        }
        for (int kind : new int[] {-1, 6, MIN, MAX}) {
            Due.due("exits of kind " + kind, desk.exits(0, kind, 0, 0, 0), false);
        }
    }

    // Promise 3: "or a target that is used is not 0..11"
    private static void usedTargetsFrom0To11() {
        for (int target : new int[] {-1, 0, 1, 11, 12, MIN, MAX}) {
            boolean fits = target >= 0 && target <= 11;
            Desk desk = Desks.withBlocks(1);
            for (int kind = 1; kind <= 5; kind++) {
                Due.due("first target " + target + " of kind " + kind, desk.exits(0, kind, target, 0, 0), fits);
            }
            for (int kind = 2; kind <= 5; kind++) {
                Due.due("second target " + target + " of kind " + kind, desk.exits(0, kind, 0, target, 0), fits);
            }
            Due.due("third target " + target + " of kind 5", desk.exits(0, 5, 0, 0, target), fits);
        }
    }

    // Promise 3: "those of the targets that its kind uses"
    private static void unusedTargetsAreFree() {
        Desk desk = Desks.withBlocks(1);
        for (int target : new int[] {-1, 1, 11, 12, MIN, MAX}) {
            Due.due("END", desk.exits(0, 0, target, target, target), true);
            Due.due("build() with END", desk.build(), 2);
            Due.due("GO", desk.exits(0, 1, 0, target, target), true);
            Due.due("build() with GO", desk.build(), 2);
            for (int kind = 2; kind <= 4; kind++) {
                Due.due("IF " + kind, desk.exits(0, kind, 0, 0, target), true);
                Due.due("build() with IF " + kind, desk.build(), 3);
            }
        }
    }

    // Promise 4: "How many there were."
    private static void clearTellsHowManyThereWere() {
        Desk desk = new Desk();
        for (int blocks = 0; blocks <= 12; blocks++) {
            for (int i = 0; i < blocks; i++) {
                desk.block(0, 0);
            }
            Due.due("clear() of " + blocks, desk.clear(), blocks);
            Due.due("clear() once more", desk.clear(), 0);
        }
    }

    // Promise 4: "Removes all blocks"
    private static void clearRemovesBlocks() {
        Desk desk = Desks.withBlocks(3);
        Due.due("exits before clear", desk.exits(2, 0, 0, 0, 0), true);
        desk.clear();
        Due.due("exits after clear", desk.exits(0, 0, 0, 0, 0), false);
        Due.due("build() after clear", desk.build(), CoverDesk.NONE);
        Due.due("block after clear", desk.block(0, 0), 0);
        Due.due("exits of the one that is there", desk.exits(0, 0, 0, 0, 0), true);
        Due.due("exits of one that was there", desk.exits(1, 0, 0, 0, 0), false);
        Due.due("build() of the one that is there", desk.build(), 2);
    }

    // Promise 4: "what is built stays"
    private static void clearLeavesWhatIsBuilt() {
        Desk desk = Desks.counting();
        desk.run(0, 3);
        desk.dump(1);
        desk.run(0, 2);
        String before = Desks.shown(desk);
        Due.due("clear()", desk.clear(), 2);
        Due.due("what is built, after clear", Desks.shown(desk), before);
        Due.due("run after clear", desk.run(0, 3), CoverDesk.OK);
        Due.due("merge after clear", desk.merge(1), true);
        Due.due("counts after clear", Desks.counts(desk), "5 3 3 3");
    }

    // Promise 5: "how many edges it has, with the OUT edge"
    private static void buildCountsEdges() {
        Desk desk = Desks.withBlocks(1);
        int[] due = {2, 2, 3, 3, 3, 4};
        for (int kind = 0; kind <= 5; kind++) {
            desk.exits(0, kind, 0, 0, 0);
            Due.due("build() of kind " + kind, desk.build(), due[kind]);
        }
        for (int blocks = 1; blocks <= 12; blocks++) {
            Due.due("build() of " + blocks + " that END", Desks.withBlocks(blocks).build(), blocks + 1);
        }
    }

    // Promise 5: "NONE .. if there are no blocks"
    private static void buildNeedsABlock() {
        Desk desk = new Desk();
        Due.due("build() of none", desk.build(), CoverDesk.NONE);
        desk.block(0, 0);
        Due.due("build() of one", desk.build(), 2);
        desk.clear();
        Due.due("build() of none again", desk.build(), CoverDesk.NONE);
        Due.due("what was built stays", desk.covered(0), 1);
    }

    // Promise 5: "or an exit of one leads to a block that is not there"
    private static void buildNeedsTheBlocksThatAreLedTo() {
        for (int blocks = 1; blocks < 12; blocks++) {
            for (int block = 0; block < blocks; block += Math.max(1, blocks - 1)) {
                for (int kind = 1; kind <= 5; kind++) {
                    buildAtTheEdge(blocks, block, kind, 0);
                }
                for (int kind = 2; kind <= 5; kind++) {
                    buildAtTheEdge(blocks, block, kind, 1);
                }
                buildAtTheEdge(blocks, block, 5, 2);
            }
        }
    }

    /** One exit leads to the last block, then behind it, and then the block that it leads to is appended. */
    private static void buildAtTheEdge(int blocks, int block, int kind, int exit) {
        Desk desk = Desks.withBlocks(blocks);
        int[] edges = {2, 2, 3, 3, 3, 4};
        int due = blocks - 1 + edges[kind];
        String call = "build() of " + blocks + ", block " + block + " of kind " + kind + " by exit " + exit;
        leadTo(desk, block, kind, exit, blocks - 1);
        Due.due(call + " to the last", desk.build(), due);
        leadTo(desk, block, kind, exit, 11);
        Due.due(call + " to 11", desk.build(), CoverDesk.NONE);
        leadTo(desk, block, kind, exit, blocks);
        Due.due(call + " behind the last", desk.build(), CoverDesk.NONE);
        desk.block(0, 0);
        Due.due(call + " as soon as it is there", desk.build(), due + 1);
    }

    private static void leadTo(Desk desk, int block, int kind, int exit, int target) {
        Due.due("exits", desk.exits(block, kind, exit == 0 ? target : 0, exit == 1 ? target : 0, exit == 2 ? target : 0), true);
    }

    // Promise 5: "all weights and counts 0"
    private static void buildBeginsAnew() {
        Desk desk = Desks.counting();
        String fresh = Desks.shown(desk);
        desk.weight(1, 7);
        desk.weight(3, -7);
        desk.run(0, 5);
        desk.run(0, 500);
        Due.due("build() again", desk.build(), 4);
        Due.due("weights, counts and last after build", Desks.shown(desk), fresh);
    }

    // Promise 5: "The blocks as they are become the program that is built"
    private static void whatIsBuiltIsACopy() {
        Desk desk = Desks.counting();
        String before = Desks.shown(desk);
        desk.exits(0, 0, 0, 0, 0);
        desk.block(0, 0);
        Due.due("what is built, after blocks were changed", Desks.shown(desk), before);
        desk.run(0, 3);
        Due.due("counts of what is built", Desks.counts(desk), "2 1 1 1");
        desk.clear();
        desk.block(5, 77);
        desk.run(0, 3);
        Due.due("last(0) of what is built", desk.last(0), 3);
    }

    // "A PROGRAM has up to 12 BLOCKS", each with up to three exits
    private static void greatestProgram() {
        Desk desk = Desks.greatest();
        Due.due("OUT edge's from", desk.edge(36, 0), -1);
        Due.due("last edge of blocks", desk.edge(35, 0), 11);
        Due.due("its exit", desk.edge(35, 1), 2);
        Due.due("edge 37", desk.edge(37, 0), CoverDesk.NONE);
        Due.due("covered(0)", desk.covered(0), 12);
        Due.due("covered(2)", desk.covered(2), 36);
        Due.due("run", desk.run(0, 0), CoverDesk.CUT);
        Due.due("count of OUT", desk.count(36), 1);
        Due.due("done(11)", desk.done(11), 89);
    }
}
