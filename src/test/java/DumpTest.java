/** Promises 16 and 17: dump and merge. */
public final class DumpTest {
    public static void main(String[] args) {
        dumpTakesTheCounts();
        dumpIsRefused();
        refusedDumpChangesNothing();
        dumpLosesWhatWasInIt();
        dumpsAreTwo();
        mergeAdds();
        mergeIsRefused();
        emptyIsNotAllZero();
        buildAndWeightEmptyDumps();
        refusedBuildAndWeightDoNot();
        clearAndBlocksDoNot();
        mergeUpToTheLimit();
        limitCountsRunsThatAreCut();
        mergeIsNoRun();
        Due.finish();
    }

    private static void dumpTakesTheCounts() {
        CoverDesk desk = Desks.counting();
        String fresh = Desks.counts(desk);
        desk.run(0, 3);
        desk.run(0, 300);
        Due.due("dump(0)", desk.dump(0), true);
        Due.due("counts after dump", Desks.counts(desk), fresh);
        Due.due("paths after dump", Desks.pathCounts(desk), "0 0");
        Due.due("done(0) after dump", desk.done(0), 0);
        Due.due("cut after dump", desk.covered(7), 0);
        Due.due("merge(0)", desk.merge(0), true);
        Due.due("counts after merge", Desks.counts(desk), "101 1 1 2");
        Due.due("paths after merge", Desks.pathCounts(desk), "101 1");
        Due.due("done(0) after merge", desk.done(0), 103);
        Due.due("done(1) after merge", desk.done(1), 1);
        Due.due("cut after merge", desk.covered(7), 1);
    }

    private static void dumpIsRefused() {
        CoverDesk desk = new CoverDesk();
        Due.due("dump(0) of nothing", desk.dump(0), false);
        desk.block(0, 0);
        Due.due("dump(1) of what is not built", desk.dump(1), false);
        desk.build();
        Due.due("merge(0) after a refused dump", desk.merge(0), false);
        int[] wrong = {-1, 2, Integer.MIN_VALUE, Integer.MAX_VALUE};
        for (int d : wrong) {
            Due.due("dump(" + d + ")", desk.dump(d), false);
        }
    }

    private static void refusedDumpChangesNothing() {
        CoverDesk desk = Desks.counting();
        desk.run(0, 3);
        String before = Desks.shown(desk);
        desk.dump(-1);
        desk.dump(2);
        Due.due("what is built, after refused dumps", Desks.shown(desk), before);
        Due.due("merge(0)", desk.merge(0), false);
        Due.due("merge(1)", desk.merge(1), false);
    }

    private static void dumpLosesWhatWasInIt() {
        CoverDesk desk = Desks.counting();
        desk.run(0, 300);
        desk.dump(1);
        desk.run(0, 3);
        desk.dump(1);
        desk.merge(1);
        Due.due("counts of the second dump", Desks.counts(desk), "2 1 1 1");
        Due.due("cut of the second dump", desk.covered(7), 0);
    }

    private static void dumpsAreTwo() {
        CoverDesk desk = Desks.counting();
        desk.run(0, 3);
        desk.dump(0);
        Due.due("merge(1), empty", desk.merge(1), false);
        desk.run(0, 5);
        desk.dump(1);
        desk.merge(0);
        Due.due("counts of dump 0", Desks.counts(desk), "2 1 1 1");
        desk.merge(1);
        Due.due("counts of both", Desks.counts(desk), "6 2 2 2");
        Due.due("paths of both", Desks.pathCounts(desk), "6 2");
        desk.dump(0);
        desk.merge(1);
        Due.due("counts of dump 1 alone", Desks.counts(desk), "4 1 1 1");
    }

    private static void mergeAdds() {
        CoverDesk desk = Desks.counting();
        desk.run(0, 3);
        desk.run(0, 1000);
        desk.dump(0);
        desk.run(0, 2);
        for (int i = 1; i <= 3; i++) {
            Due.due("merge(0), " + i, desk.merge(0), true);
            Due.due("count(0)", desk.count(0), 1 + i * 101);
            Due.due("count(3)", desk.count(3), 1 + i * 2);
            Due.due("done(0)", desk.done(0), 2 + i * 103);
            Due.due("path(0)", desk.path(0), 1 + i * 101);
            Due.due("path(1)", desk.path(1), 1 + i);
            Due.due("covered(7)", desk.covered(7), i);
        }
    }

    private static void mergeIsRefused() {
        CoverDesk desk = Desks.counting();
        desk.run(0, 3);
        String before = Desks.shown(desk);
        int[] wrong = {-1, 0, 1, 2, Integer.MIN_VALUE, Integer.MAX_VALUE};
        for (int d : wrong) {
            Due.due("merge(" + d + ")", desk.merge(d), false);
        }
        Due.due("what is built, after refused merges", Desks.shown(desk), before);
    }

    private static void emptyIsNotAllZero() {
        CoverDesk desk = Desks.counting();
        Due.due("dump(0) of no counts", desk.dump(0), true);
        desk.run(0, 3);
        Due.due("merge(0) of no counts", desk.merge(0), true);
        Due.due("counts", Desks.counts(desk), "2 1 1 1");
    }

    private static void buildAndWeightEmptyDumps() {
        CoverDesk desk = Desks.counting();
        desk.run(0, 3);
        desk.dump(0);
        desk.dump(1);
        desk.build();
        Due.due("merge(0) after build", desk.merge(0), false);
        Due.due("merge(1) after build", desk.merge(1), false);
        desk.run(0, 3);
        desk.dump(0);
        desk.dump(1);
        desk.weight(0, 0);
        Due.due("merge(0) after weight", desk.merge(0), false);
        Due.due("merge(1) after weight", desk.merge(1), false);
        Due.due("counts", Desks.counts(desk), "0 0 0 0");
        desk.run(0, 4);
        desk.dump(1);
        Due.due("merge(0), kept before weight", desk.merge(0), false);
        Due.due("merge(1), kept since", desk.merge(1), true);
        Due.due("counts of what was kept since", Desks.counts(desk), "3 1 1 1");
    }

    private static void refusedBuildAndWeightDoNot() {
        CoverDesk desk = Desks.counting();
        desk.run(0, 3);
        desk.dump(0);
        desk.exits(0, 1, 9, 0, 0);
        Due.due("build()", desk.build(), CoverDesk.NONE);
        Due.due("weight(4, 4)", desk.weight(4, 4), false);
        Due.due("merge(0)", desk.merge(0), true);
        Due.due("counts", Desks.counts(desk), "2 1 1 1");
    }

    private static void clearAndBlocksDoNot() {
        CoverDesk desk = Desks.counting();
        desk.run(0, 3);
        desk.dump(0);
        desk.clear();
        desk.block(0, 0);
        desk.exits(0, 1, 0, 0, 0);
        Due.due("merge(0)", desk.merge(0), true);
        Due.due("counts", Desks.counts(desk), "2 1 1 1");
    }

    private static void mergeUpToTheLimit() {
        CoverDesk desk = Desks.counting();
        Millions.fill(desk, 500000, 0, 3);
        desk.dump(0);
        desk.merge(0);
        desk.run(0, 1);
        String before = Desks.shown(desk);
        Due.due("merge to 1000001 runs", desk.merge(0), false);
        Due.due("what is built, after a refused merge", Desks.shown(desk), before);
        desk.dump(1);
        desk.merge(0);
        Due.due("merge to 1000000 runs", desk.merge(0), true);
        Due.due("counts", Desks.counts(desk), "2000000 1000000 1000000 1000000");
        Due.due("paths", Desks.pathCounts(desk), "2000000 1000000");
        Due.due("merge of one more", desk.merge(1), false);
        Due.due("run of one more", desk.run(0, 0), CoverDesk.NONE);
        desk.dump(0);
        desk.dump(1);
        Due.due("merge of none", desk.merge(1), true);
        Due.due("merge of all", desk.merge(0), true);
        Due.due("merge of none to all", desk.merge(1), true);
        Due.due("runs", desk.count(3), 1000000);
    }

    private static void limitCountsRunsThatAreCut() {
        CoverDesk desk = Desks.counting();
        Millions.fill(desk, 500000, 0, 1000);
        desk.dump(0);
        desk.run(0, 1000);
        Due.due("merge to 500001 runs, all cut", desk.merge(0), true);
        Due.due("merge to 1000001 runs, all cut", desk.merge(0), false);
        desk.dump(1);
        desk.merge(0);
        desk.merge(0);
        Due.due("run 1000001, all cut", desk.run(0, 1000), CoverDesk.NONE);
        Due.due("counts", Desks.counts(desk), "99000000 0 0 1000000");
        Due.due("done(0)", desk.done(0), 100000000);
        Due.due("path(0)", desk.path(0), 99000000);
        Due.due("covered(7)", desk.covered(7), 1000000);
    }

    private static void mergeIsNoRun() {
        CoverDesk desk = Desks.counting();
        desk.run(0, 3);
        desk.dump(0);
        desk.run(5, 1);
        desk.merge(0);
        Due.due("last(0) after merge", desk.last(0), 6);
        Due.due("last(1) after merge", desk.last(1), 1);
        Due.due("last(2) after merge", desk.last(2), 2);
    }
}
