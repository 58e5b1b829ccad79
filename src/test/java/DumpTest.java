/** Promises 16 and 17: dump and merge. */
public final class DumpTest {
    private static final int MIN = Integer.MIN_VALUE;
    private static final int MAX = Integer.MAX_VALUE;

    public static void main(String[] args) {
        dumpTakesTheCounts();
        dumpsAre0And1();
        dumpNeedsAProgram();
        dumpLosesWhatWasInIt();
        dumpsAreTwo();
        dumpsOfTheGreatestProgram();
        mergeAdds();
        mergesAre0And1();
        emptyIsNotAllZero();
        dumpThatLostItsCounts();
        buildAndWeightEmptyDumps();
        refusedBuildAndWeightDoNot();
        otherCallsDoNot();
        mergeOfAMillionRuns();
        mergeUpToAMillionRuns();
        mergeOfNoRunsToAMillion();
        limitCountsRunsThatAreCut();
        mergeIsNoRun();
        Due.finish();
    }

    // Promise 16: "The counts, of edges, blocks, paths and runs cut off, are kept in a dump .., and are all 0 then"
    private static void dumpTakesTheCounts() {
        Desk desk = Desks.counting();
        String fresh = Desks.counts(desk);
        desk.run(0, 3);
        desk.run(0, 300);
        Due.due("dump(0)", desk.dump(0), true);
        Due.due("counts after dump", Desks.counts(desk), fresh);
        Due.due("paths after dump", Desks.pathCounts(desk), "0 0");
        Due.due("done(0) after dump", desk.done(0), 0);
        Due.due("cut after dump", desk.covered(7), 0);
        Due.due("merge(0)", desk.merge(0), true);
        Due.due("counts after merge", Desks.counts(desk), "101 1 1 2");
        Due.due("paths after merge", Desks.pathCounts(desk), "101 1");
        Due.due("done(0) after merge", desk.done(0), 103);
        Due.due("done(1) after merge", desk.done(1), 1);
        Due.due("cut after merge", desk.covered(7), 1);
    }

    // Promise 16: "a dump (0 or 1)", "False .. if there is no such dump"
    private static void dumpsAre0And1() {
        Desk desk = Desks.counting();
        Due.due("dump(0)", desk.dump(0), true);
        Due.due("dump(1)", desk.dump(1), true);
        for (int d : new int[] {-1, 2, MIN, MAX}) {
            Due.due("dump(" + d + ")", desk.dump(d), false);
        }
    }

    // Promise 16: "or nothing is built"
    private static void dumpNeedsAProgram() {
        Desk desk = new Desk();
        Due.due("dump(0) of nothing", desk.dump(0), false);
        desk.block(0, 0);
        Due.due("dump(1) of what is not built", desk.dump(1), false);
        desk.build();
        Due.due("merge(0) after a refused dump", desk.merge(0), false);
        Due.due("merge(1) after a refused dump", desk.merge(1), false);
        Due.due("dump(0) of what is built", desk.dump(0), true);
        desk.clear();
        Due.due("dump(1) of what is built, without blocks", desk.dump(1), true);
    }

    // Promise 16: "what was in it is lost"
    private static void dumpLosesWhatWasInIt() {
        Desk desk = Desks.counting();
        desk.run(0, 300);
        desk.dump(1);
        desk.run(0, 3);
        desk.dump(1);
        desk.merge(1);
        Due.due("counts of the second dump", Desks.counts(desk), "2 1 1 1");
        Due.due("cut of the second dump", desk.covered(7), 0);
    }

    private static void dumpsAreTwo() {
        Desk desk = Desks.counting();
        desk.run(0, 3);
        desk.dump(0);
        Due.due("merge(1), empty", desk.merge(1), false);
        desk.run(0, 5);
        desk.dump(1);
        desk.merge(0);
        Due.due("counts of dump 0", Desks.counts(desk), "2 1 1 1");
        desk.merge(1);
        Due.due("counts of both", Desks.counts(desk), "6 2 2 2");
        Due.due("paths of both", Desks.pathCounts(desk), "6 2");
        desk.dump(0);
        desk.merge(1);
        Due.due("counts of dump 1 alone", Desks.counts(desk), "4 1 1 1");
    }

    private static void dumpsOfTheGreatestProgram() {
        Desk desk = Desks.greatest();
        desk.run(0, 0);
        desk.dump(0);
        desk.run(1, 0);
        desk.run(2, 0);
        desk.dump(1);
        Due.due("merge(1)", desk.merge(1), true);
        Due.due("edge counts of dump 1", desk.count(1) + " " + desk.count(2) + " " + desk.count(36), "99 99 2");
        Due.due("done of dump 1", Desks.dones(desk), "200 0 0 0 0 0 0 0 0 0 0 0");
        Due.due("paths of dump 1", desk.path(0) + " " + desk.path(23) + " " + desk.path(24), "0 99 99");
        Due.due("cut of dump 1", desk.covered(7), 2);
        Due.due("merge(0)", desk.merge(0), true);
        Due.due("edge counts of both", desk.count(0) + " " + desk.count(33) + " " + desk.count(36), "1 88 3");
        Due.due("done of both", Desks.dones(desk), "201 1 1 1 1 1 1 1 1 1 1 89");
        Due.due("paths of both", desk.path(0) + " " + desk.path(24) + " " + desk.path(165), "1 99 87");
        Due.due("cut of both", desk.covered(7), 3);
    }

    // Promise 17: "The counts of a dump are added to those that are; the dump stays."
    private static void mergeAdds() {
        Desk desk = Desks.counting();
        desk.run(0, 3);
        desk.run(0, 1000);
        desk.dump(0);
        desk.run(0, 2);
        for (int i = 1; i <= 3; i++) {
            Due.due("merge(0), " + i, desk.merge(0), true);
            Due.due("count(0)", desk.count(0), 1 + i * 101);
            Due.due("count(3)", desk.count(3), 1 + i * 2);
            Due.due("done(0)", desk.done(0), 2 + i * 103);
            Due.due("path(0)", desk.path(0), 1 + i * 101);
            Due.due("path(1)", desk.path(1), 1 + i);
            Due.due("covered(7)", desk.covered(7), i);
        }
    }

    // Promise 17: "False .. if there is no such dump, it is empty"
    private static void mergesAre0And1() {
        Desk desk = Desks.counting();
        for (int d : new int[] {-1, 0, 1, 2, MIN, MAX}) {
            Due.due("merge(" + d + "), all empty", desk.merge(d), false);
        }
        desk.dump(0);
        Due.due("merge(1), 0 kept", desk.merge(1), false);
        desk.dump(1);
        for (int d : new int[] {-1, 0, 1, 2, MIN, MAX}) {
            Due.due("merge(" + d + "), both kept", desk.merge(d), d == 0 || d == 1);
        }
    }

    // Promise 18: "a dump whose counts are all 0 is kept, too, and not empty"
    private static void emptyIsNotAllZero() {
        Desk desk = Desks.counting();
        Due.due("merge(0), empty", desk.merge(0), false);
        Due.due("dump(0) of no counts", desk.dump(0), true);
        desk.run(0, 3);
        Due.due("merge(0) of no counts", desk.merge(0), true);
        Due.due("merge(1), empty", desk.merge(1), false);
        Due.due("counts", Desks.counts(desk), "2 1 1 1");
    }

    private static void dumpThatLostItsCounts() {
        Desk desk = Desks.counting();
        desk.run(0, 3);
        desk.dump(0);
        Due.due("dump(0) of no counts over others", desk.dump(0), true);
        Due.due("merge(0)", desk.merge(0), true);
        Due.due("counts, lost", Desks.counts(desk), "0 0 0 0");
    }

    // Promise 17: "build or weight did something since it was kept"
    private static void buildAndWeightEmptyDumps() {
        Desk desk = Desks.counting();
        desk.run(0, 3);
        desk.dump(0);
        desk.dump(1);
        desk.build();
        Due.due("merge(0) after build", desk.merge(0), false);
        Due.due("merge(1) after build", desk.merge(1), false);
        desk.run(0, 3);
        desk.dump(0);
        desk.dump(1);
        desk.weight(0, 0);
        Due.due("merge(0) after weight", desk.merge(0), false);
        Due.due("merge(1) after weight", desk.merge(1), false);
        Due.due("counts", Desks.counts(desk), "0 0 0 0");
        desk.run(0, 4);
        desk.dump(1);
        Due.due("merge(0), kept before weight", desk.merge(0), false);
        Due.due("merge(1), kept since", desk.merge(1), true);
        Due.due("counts of what was kept since", Desks.counts(desk), "3 1 1 1");
    }

    private static void refusedBuildAndWeightDoNot() {
        Desk desk = Desks.counting();
        desk.run(0, 3);
        desk.dump(0);
        desk.exits(0, 1, 9, 0, 0);
        Due.due("build()", desk.build(), CoverDesk.NONE);
        Due.due("weight(4, 4)", desk.weight(4, 4), false);
        Due.due("merge(0)", desk.merge(0), true);
        Due.due("counts", Desks.counts(desk), "2 1 1 1");
    }

    private static void otherCallsDoNot() {
        Desk desk = Desks.counting();
        desk.run(0, 3);
        desk.dump(0);
        desk.clear();
        desk.block(0, 0);
        desk.exits(0, 1, 0, 0, 0);
        desk.dump(1);
        Due.due("merge(0)", desk.merge(0), true);
        Due.due("counts", Desks.counts(desk), "2 1 1 1");
        desk.run(0, 3);
        Due.due("merge(0) again", desk.merge(0), true);
        Due.due("counts again", Desks.counts(desk), "6 3 3 3");
    }

    // Promise 17: "or there would be more than 1000000 runs"
    private static void mergeOfAMillionRuns() {
        Desk desk = Desks.counting();
        Millions.fill(desk, 1000000, 0, 3);
        desk.dump(0);
        Due.due("merge to 1000000 runs", desk.merge(0), true);
        Due.due("counts", Desks.counts(desk), "2000000 1000000 1000000 1000000");
        Due.due("merge to 2000000 runs", desk.merge(0), false);
        desk.dump(1);
        desk.run(0, 3);
        Due.due("merge to 1000001 runs", desk.merge(0), false);
        Due.due("counts of one", Desks.counts(desk), "2 1 1 1");
    }

    private static void mergeUpToAMillionRuns() {
        Desk desk = Desks.counting();
        Millions.fill(desk, 500000, 0, 3);
        desk.dump(0);
        desk.merge(0);
        desk.run(0, 1);
        Due.due("merge to 1000001 runs", desk.merge(0), false);
        Due.due("counts of 500001", Desks.counts(desk), "1000000 500001 500001 500001");
        desk.dump(1);
        desk.merge(0);
        Due.due("merge to 1000000 runs", desk.merge(0), true);
        Due.due("counts", Desks.counts(desk), "2000000 1000000 1000000 1000000");
        Due.due("paths", Desks.pathCounts(desk), "2000000 1000000");
        Due.due("merge of 500001 more", desk.merge(1), false);
        Due.due("run of one more", desk.run(0, 0), CoverDesk.NONE);
        desk.weight(0, 0);
        desk.run(0, 3);
        desk.dump(1);
        Millions.fill(desk, 999999, 0, 3);
        Due.due("merge of one to 1000000 runs", desk.merge(1), true);
        Due.due("merge of one to 1000001 runs", desk.merge(1), false);
        Due.due("runs", desk.count(3), 1000000);
    }

    private static void mergeOfNoRunsToAMillion() {
        Desk desk = Desks.counting();
        desk.dump(1);
        Millions.fill(desk, 1000000, 0, 3);
        Due.due("merge of none to 1000000", desk.merge(1), true);
        Due.due("counts", Desks.counts(desk), "2000000 1000000 1000000 1000000");
    }

    private static void limitCountsRunsThatAreCut() {
        Desk desk = Desks.counting();
        Millions.fill(desk, 500000, 0, 1000);
        desk.dump(0);
        desk.run(0, 1000);
        Due.due("merge to 500001 runs, all cut", desk.merge(0), true);
        Due.due("merge to 1000001 runs, all cut", desk.merge(0), false);
        desk.dump(1);
        desk.merge(0);
        desk.merge(0);
        Due.due("run 1000001, all cut", desk.run(0, 1000), CoverDesk.NONE);
        Due.due("counts", Desks.counts(desk), "99000000 0 0 1000000");
        Due.due("done(0)", desk.done(0), 100000000);
        Due.due("path(0)", desk.path(0), 99000000);
        Due.due("covered(7)", desk.covered(7), 1000000);
    }

    private static void mergeIsNoRun() {
        Desk desk = Desks.counting();
        desk.run(0, 3);
        desk.dump(0);
        desk.run(5, 1);
        desk.merge(0);
        Due.due("last(0) after merge", desk.last(0), 6);
        Due.due("last(1) after merge", desk.last(1), 1);
        Due.due("last(2) after merge", desk.last(2), 2);
    }
}
