/** Promises 7, 8, 11, 12 and 13: run, last, count, done and covered. */
public final class RunTest {
    private static final int MIN = Integer.MIN_VALUE;
    private static final int MAX = Integer.MAX_VALUE;

    public static void main(String[] args) {
        runOfOneBlock();
        runOf99Blocks();
        runOf100BlocksIsCut();
        cutBehindTheOpOfTheLastBlock();
        runThatNeverEnds();
        runNeedsAProgram();
        runsUpToAMillion();
        cutRunsUpToAMillion();
        runsAreCountedAnew();
        lastAnswers();
        lastFrom0To2();
        lastOfNoRun();
        lastSinceBuild();
        countsOfEdgesAndBlocks();
        countOfEdgesThatAreThere();
        doneOfBlocksThatAreThere();
        coveredAnswers();
        coveredFrom0To7();
        coveredOfUnmetBlocks();
        coveredOfTheGreatestProgram();
        Due.finish();
    }

    private static void runOfOneBlock() {
        Desk desk = Desks.built(new int[] {1, 5, 0});
        Due.due("run of one block", desk.run(2, 3), CoverDesk.OK);
        Due.due("X", desk.last(0), 7);
        Due.due("Y", desk.last(1), 3);
        Due.due("blocks done", desk.last(2), 1);
        Due.due("counts", Desks.counts(desk), "1 1");
    }

    // "until it is outside, or has done 100 blocks". X counts up to Y in block 0: a run from 0 does Y + 1 blocks.
    private static void runOf99Blocks() {
        Desk desk = Desks.counting();
        Due.due("run of 99 blocks", desk.run(0, 98), CoverDesk.OK);
        Due.due("X", desk.last(0), 98);
        Due.due("blocks done", desk.last(2), 99);
        Due.due("counts", Desks.counts(desk), "97 1 1 1");
        Due.due("done", Desks.dones(desk), "98 1");
        Due.due("covered(7)", desk.covered(7), 0);
    }

    // "then it is CUT off behind the last one's op, before it leaves"
    private static void runOf100BlocksIsCut() {
        Desk desk = Desks.counting();
        Due.due("run whose 100th block ENDs", desk.run(0, 99), CoverDesk.CUT);
        Due.due("X", desk.last(0), 99);
        Due.due("blocks done", desk.last(2), 100);
        Due.due("counts, END not gone", Desks.counts(desk), "98 1 0 1");
        Due.due("done", Desks.dones(desk), "99 1");
        Due.due("covered(7)", desk.covered(7), 1);
        Due.due("run whose 101st block would END", desk.run(0, 100), CoverDesk.CUT);
        Due.due("blocks done", desk.last(2), 100);
        Due.due("counts, not gone to END", Desks.counts(desk), "197 1 0 2");
        Due.due("done", Desks.dones(desk), "199 1");
    }

    private static void cutBehindTheOpOfTheLastBlock() {
        // As counting, but block 1 does X = 1000 and ENDs: as the 99th block, as the 100th, and as the 101st.
        Desk desk = Desks.built(new int[] {1, 1, 2, 0, 1}, new int[] {5, 1000, 0});
        Due.due("99 blocks", desk.run(0, 98), CoverDesk.OK);
        Due.due("X behind the 99th block's op", desk.last(0), 1000);
        Due.due("100 blocks", desk.run(0, 99), CoverDesk.CUT);
        Due.due("X behind the 100th block's op", desk.last(0), 1000);
        Due.due("101 blocks", desk.run(0, 100), CoverDesk.CUT);
        Due.due("X without the 101st block's op", desk.last(0), 100);
    }

    private static void runThatNeverEnds() {
        Desk desk = Desks.counting();
        Due.due("run to 1000", desk.run(0, 1000), CoverDesk.CUT);
        Due.due("X behind the last op", desk.last(0), 100);
        Due.due("Y", desk.last(1), 1000);
        Due.due("blocks done", desk.last(2), 100);
        Due.due("counts", Desks.counts(desk), "99 0 0 1");
        Due.due("done", Desks.dones(desk), "100 0");
        desk.run(0, 1000);
        Due.due("covered(7)", desk.covered(7), 2);
        Due.due("count of OUT", desk.count(3), 2);
    }

    // Promise 7: "NONE .. if nothing is built"
    private static void runNeedsAProgram() {
        Desk desk = new Desk();
        Due.due("run without blocks", desk.run(1, 2), CoverDesk.NONE);
        desk.block(5, 7);
        Due.due("run of what is not built", desk.run(1, 2), CoverDesk.NONE);
        desk.build();
        Due.due("run of what is built", desk.run(1, 2), CoverDesk.OK);
        desk.clear();
        Due.due("run of what is built, without blocks", desk.run(1, 2), CoverDesk.OK);
    }

    // Promise 7: "or 1000000 runs are counted"
    private static void runsUpToAMillion() {
        Desk desk = Desks.counting();
        Millions.fill(desk, 999999, 0, 3);
        Due.due("runs", desk.count(3), 999999);
        Due.due("run 1000000", desk.run(0, 2), CoverDesk.OK);
        Due.due("runs", desk.count(3), 1000000);
        Due.due("run 1000001", desk.run(9, 9), CoverDesk.NONE);
        Due.due("run 1000001 again", desk.run(0, 500), CoverDesk.NONE);
        Due.due("runs", desk.count(3), 1000000);
        Due.due("last(1) is of the latest run", desk.last(1), 2);
        desk.dump(0);
        Due.due("run after dump", desk.run(9, 9), CoverDesk.OK);
    }

    private static void cutRunsUpToAMillion() {
        Desk desk = Desks.counting();
        Millions.fill(desk, 999999, 0, 500);
        Due.due("run 1000000, cut", desk.run(0, 500), CoverDesk.CUT);
        Due.due("run 1000001, cut", desk.run(0, 500), CoverDesk.NONE);
        Due.due("counts", Desks.counts(desk), "99000000 0 0 1000000");
        Due.due("done", Desks.dones(desk), "100000000 0");
        Due.due("paths", Desks.pathCounts(desk), "99000000 0");
        Due.due("covered(7)", desk.covered(7), 1000000);
    }

    private static void runsAreCountedAnew() {
        Desk desk = Desks.counting();
        Millions.fill(desk, 1000000, 0, 3);
        Due.due("run 1000001", desk.run(0, 3), CoverDesk.NONE);
        desk.weight(0, 1);
        Due.due("run after weight", desk.run(0, 3), CoverDesk.OK);
        desk.weight(0, 1);
        Millions.fill(desk, 1000000, 0, 3);
        Due.due("run 1000001 after weight", desk.run(0, 3), CoverDesk.NONE);
        desk.build();
        Due.due("run after build", desk.run(0, 3), CoverDesk.OK);
        Due.due("runs after build", desk.count(3), 1);
    }

    // Promise 8: "What X (which 0) and Y were at the end of the latest run; how many blocks it did (2)"
    private static void lastAnswers() {
        Desk desk = Desks.counting();
        desk.run(-2, 5);
        Due.due("last(0)", desk.last(0), 5);
        Due.due("last(1)", desk.last(1), 5);
        Due.due("last(2)", desk.last(2), 8);
        desk.run(8, -5);
        Due.due("last(0) of the second run", desk.last(0), 9);
        Due.due("last(1) of the second run", desk.last(1), -5);
        Due.due("last(2) of the second run", desk.last(2), 2);
    }

    // Promise 8: "0 .. for others"; promise 18: "which 1 is what Y was"
    private static void lastFrom0To2() {
        Desk desk = Desks.built(new int[] {0, 0, 0});
        desk.run(MIN, MAX);
        Due.due("last(-1)", desk.last(-1), 0);
        Due.due("last(0)", desk.last(0), MIN);
        Due.due("last(1)", desk.last(1), MAX);
        Due.due("last(2)", desk.last(2), 1);
        Due.due("last(3)", desk.last(3), 0);
        Due.due("last(MIN)", desk.last(MIN), 0);
        Due.due("last(MAX)", desk.last(MAX), 0);
    }

    private static void noLast(String when, Desk desk) {
        for (int which = -1; which <= 3; which++) {
            Due.due("last(" + which + ") " + when, desk.last(which), 0);
        }
    }

    // Promise 8: "0 if there was none"
    private static void lastOfNoRun() {
        Desk desk = new Desk();
        noLast("of a new object", desk);
        desk.run(4, 5);
        noLast("after a run of nothing", desk);
        desk.block(0, 0);
        desk.build();
        noLast("before the first run", desk);
        desk.run(4, 5);
        Due.due("last(0) after the first run", desk.last(0), 4);
    }

    // Promise 8: "since build"
    private static void lastSinceBuild() {
        Desk desk = Desks.counting();
        desk.run(3, 1);
        desk.dump(0);
        Due.due("last(0) after dump", desk.last(0), 4);
        desk.merge(0);
        Due.due("last(0) after merge", desk.last(0), 4);
        desk.weight(0, 1);
        Due.due("last(1) after weight", desk.last(1), 1);
        desk.clear();
        desk.build();
        Due.due("last(2) after a refused build", desk.last(2), 2);
        desk.block(0, 0);
        desk.build();
        noLast("after build", desk);
    }

    // Promises 11 and 12
    private static void countsOfEdgesAndBlocks() {
        Desk desk = Desks.counting();
        Due.due("counts at first", Desks.counts(desk), "0 0 0 0");
        desk.run(0, 4);
        desk.run(0, 1);
        desk.run(0, 2);
        Due.due("counts", Desks.counts(desk), "4 3 3 3");
        Due.due("done", Desks.dones(desk), "7 3");
    }

    // Promise 11: "NONE if there is none"
    private static void countOfEdgesThatAreThere() {
        Desk desk = Desks.counting();
        desk.run(0, 4);
        Due.due("count(0) of 4", desk.count(0), 3);
        Due.due("count(3) of 4", desk.count(3), 1);
        for (int edge : new int[] {-1, 4, 36, 37, MIN, MAX}) {
            Due.due("count(" + edge + ") of 4", desk.count(edge), CoverDesk.NONE);
        }
        Desk greatest = Desks.greatest();
        greatest.run(2, 0);
        Due.due("count(2) of 37", greatest.count(2), 99);
        Due.due("count(35) of 37", greatest.count(35), 0);
        Due.due("count(36) of 37", greatest.count(36), 1);
        Due.due("count(37) of 37", greatest.count(37), CoverDesk.NONE);
    }

    // Promise 12: "NONE if there is none"
    private static void doneOfBlocksThatAreThere() {
        Desk desk = Desks.counting();
        desk.run(0, 4);
        // A third block, which is not built, is none.
        desk.block(0, 0);
        Due.due("done(0) of 2", desk.done(0), 4);
        Due.due("done(1) of 2", desk.done(1), 1);
        for (int block : new int[] {-1, 2, 11, 12, MIN, MAX}) {
            Due.due("done(" + block + ") of 2", desk.done(block), CoverDesk.NONE);
        }
        desk.clear();
        Due.due("done(1) of 2 after clear", desk.done(1), 1);
        Desk greatest = Desks.greatest();
        greatest.run(0, 0);
        Due.due("done(11) of 12", greatest.done(11), 89);
        Due.due("done(12) of 12", greatest.done(12), CoverDesk.NONE);
    }

    private static void covered(Desk desk, int... due) {
        for (int what = 0; what < due.length; what++) {
            Due.due("covered(" + what + ")", desk.covered(what), due[what]);
        }
    }

    // Promise 13
    private static void coveredAnswers() {
        Desk desk = Desks.counting();
        covered(desk, 2, 0, 3, 0, 2, 0, 2, 0);
        desk.run(9, 0);
        covered(desk, 2, 2, 3, 2, 2, 1, 2, 0);
        desk.run(0, 500);
        covered(desk, 2, 2, 3, 3, 2, 2, 2, 1);
        desk.dump(0);
        covered(desk, 2, 0, 3, 0, 2, 0, 2, 0);
        desk.run(0, 500);
        covered(desk, 2, 1, 3, 1, 2, 1, 2, 1);
    }

    // Promise 13: "NONE for others or if nothing is built"
    private static void coveredFrom0To7() {
        Desk desk = new Desk();
        covered(desk, -1, -1, -1, -1, -1, -1, -1, -1);
        desk.block(0, 0);
        covered(desk, -1, -1, -1, -1, -1, -1, -1, -1);
        desk.build();
        covered(desk, 1, 0, 1, 0, 1, 0, 1, 0);
        for (int what : new int[] {-1, 8, MIN, MAX}) {
            Due.due("covered(" + what + ")", desk.covered(what), CoverDesk.NONE);
        }
        desk.clear();
        covered(desk, 1, 0, 1, 0, 1, 0, 1, 0);
    }

    private static void coveredOfUnmetBlocks() {
        Desk desk = Desks.built(new int[] {0, 0, 0}, new int[] {0, 0, 5, 0, 1, 2}, new int[] {0, 0, 3, 1, 1});
        desk.run(0, 0);
        covered(desk, 3, 1, 6, 1, 1, 1, 4, 0);
    }

    private static void coveredOfTheGreatestProgram() {
        Desk desk = Desks.greatest();
        covered(desk, 12, 0, 36, 0, 168, 0, 25, 0);
        // Every block and every exit to a next one; then each of block 0's exits to itself.
        desk.run(0, 0);
        covered(desk, 12, 12, 36, 12, 168, 2, 25, 1);
        desk.run(1, 0);
        desk.run(2, 0);
        covered(desk, 12, 12, 36, 14, 168, 4, 25, 3);
    }
}
