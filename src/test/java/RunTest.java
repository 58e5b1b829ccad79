/** Promises 7, 8, 11, 12 and 13: run, last, count, done and covered. */
public final class RunTest {
    private static final int MIN = Integer.MIN_VALUE;
    private static final int MAX = Integer.MAX_VALUE;

    public static void main(String[] args) {
        ops();
        opsWrap();
        exitsByLess();
        exitsByOdd();
        exitsByZero();
        exitsBySwitch();
        exitsAreChosenAfterTheOp();
        runOf99Blocks();
        runOf100BlocksIsCut();
        runThatNeverEnds();
        runIsRefused();
        runAfterTheLastIsRefused();
        lastAnswers();
        lastSinceBuild();
        countsOfEdgesAndBlocks();
        countIsRefused();
        coveredAnswers();
        coveredOfUnmetBlocks();
        coveredIsRefused();
        Due.finish();
    }

    private static void op(int op, int a, int x, int y, int dueX, int dueY) {
        CoverDesk desk = Desks.built(new int[] {op, a, 0});
        String call = "op " + op + " with " + a + " on " + x + ", " + y;
        Due.due(call, desk.run(x, y), CoverDesk.OK);
        Due.due(call + ": X", desk.last(0), dueX);
        Due.due(call + ": Y", desk.last(1), dueY);
    }

    private static void ops() {
        op(0, 9, 3, 5, 3, 5);
        op(1, 9, 3, 5, 12, 5);
        op(2, 9, 3, 5, 3, 14);
        op(3, 9, 3, 5, 5, 5);
        op(4, 9, 3, 5, 3, 2);
        op(5, 9, 3, 5, 9, 5);
        op(6, 9, 3, 5, 5, 3);
        op(7, 9, 3, 5, 3, 45);
    }

    private static void opsWrap() {
        op(1, 1, MAX, 0, MIN, 0);
        op(1, -1, MIN, 0, MAX, 0);
        op(2, 1, 0, MAX, 0, MIN);
        op(4, 0, 1, MIN, 1, MAX);
        op(4, 0, MIN, 0, MIN, MIN);
        op(7, -1, 0, MIN, 0, MIN);
        op(7, 3, 0, MAX, 0, MAX - 2);
        op(5, MIN, 0, 0, MIN, 0);
    }

    /** Which exit of block 0 a run takes: its targets 1, 2 and 3 end and are told apart by what is done. */
    private static void exit(int kind, int x, int y, int due) {
        CoverDesk desk = Desks.built(new int[] {0, 0, kind, 1, 2, 3}, new int[] {0, 0, 0}, new int[] {0, 0, 0}, new int[] {0, 0, 0});
        String call = "exit of kind " + kind + " on " + x + ", " + y;
        Due.due(call, desk.run(x, y), CoverDesk.OK);
        for (int exit = 0; exit < 3; exit++) {
            Due.due(call + ": block " + (exit + 1), desk.done(exit + 1), exit == due ? 1 : 0);
        }
        Due.due(call + ": edge", desk.count(due), 1);
    }

    private static void exitsByLess() {
        exit(1, 3, 4, 0);
        exit(2, 3, 4, 0);
        exit(2, 4, 4, 1);
        exit(2, 5, 4, 1);
        exit(2, MIN, MAX, 0);
        exit(2, MAX, MIN, 1);
    }

    private static void exitsByOdd() {
        exit(3, 1, 0, 0);
        exit(3, 0, 1, 1);
        exit(3, -1, 0, 0);
        exit(3, -2, 1, 1);
        exit(3, MAX, 0, 0);
        exit(3, MIN, 1, 1);
    }

    private static void exitsByZero() {
        exit(4, 0, 5, 0);
        exit(4, 1, 0, 1);
        exit(4, -1, 0, 1);
        exit(4, MIN, 0, 1);
    }

    private static void exitsBySwitch() {
        int[] xs = {0, 1, 2, 3, -1, -2, -3, -4, MAX, MIN};
        int[] due = {0, 1, 2, 0, 2, 1, 0, 2, 1, 1};
        for (int i = 0; i < xs.length; i++) {
            exit(5, xs[i], 7, due[i]);
        }
    }

    private static void exitsAreChosenAfterTheOp() {
        CoverDesk desk = Desks.built(new int[] {1, 1, 4, 1, 2}, new int[] {0, 0, 0}, new int[] {0, 0, 0});
        desk.run(-1, 0);
        Due.due("X is 0 behind the op", desk.done(1), 1);
        desk.run(0, 0);
        Due.due("X is 0 before the op", desk.done(2), 1);
    }

    // X counts up to Y in block 0, so that a run from 0 does Y + 1 blocks.
    private static void runOf99Blocks() {
        CoverDesk desk = Desks.counting();
        Due.due("run of 99 blocks", desk.run(0, 98), CoverDesk.OK);
        Due.due("blocks done", desk.last(2), 99);
        Due.due("counts", Desks.counts(desk), "97 1 1 1");
        Due.due("covered(7)", desk.covered(7), 0);
    }

    private static void runOf100BlocksIsCut() {
        CoverDesk desk = Desks.counting();
        Due.due("run whose 100th block ENDs", desk.run(0, 99), CoverDesk.CUT);
        Due.due("blocks done", desk.last(2), 100);
        Due.due("counts, END not gone", Desks.counts(desk), "98 1 0 1");
        Due.due("done(1)", desk.done(1), 1);
        Due.due("covered(7)", desk.covered(7), 1);
        Due.due("paths, the last one cut", Desks.pathCounts(desk), "98 0");
    }

    private static void runThatNeverEnds() {
        CoverDesk desk = Desks.counting();
        Due.due("run to 1000", desk.run(0, 1000), CoverDesk.CUT);
        Due.due("X behind the last op", desk.last(0), 100);
        Due.due("Y", desk.last(1), 1000);
        Due.due("blocks done", desk.last(2), 100);
        Due.due("counts", Desks.counts(desk), "99 0 0 1");
        Due.due("done(0)", desk.done(0), 100);
        Due.due("done(1)", desk.done(1), 0);
        desk.run(0, 1000);
        Due.due("covered(7)", desk.covered(7), 2);
        Due.due("count of OUT", desk.count(3), 2);
    }

    private static void runIsRefused() {
        CoverDesk desk = new CoverDesk();
        Due.due("run without blocks", desk.run(1, 2), CoverDesk.NONE);
        desk.block(5, 7);
        Due.due("run of what is not built", desk.run(1, 2), CoverDesk.NONE);
        Due.due("last(0)", desk.last(0), 0);
    }

    private static void runAfterTheLastIsRefused() {
        CoverDesk desk = Desks.counting();
        Millions.fill(desk, 999999, 0, 3);
        Due.due("runs", desk.count(3), 999999);
        Due.due("run 1000000", desk.run(0, 2), CoverDesk.OK);
        String before = Desks.shown(desk);
        Due.due("run 1000001", desk.run(9, 9), CoverDesk.NONE);
        Due.due("what is built, after a refused run", Desks.shown(desk), before);
        Due.due("last(1) is of the latest run", desk.last(1), 2);
        desk.dump(0);
        Due.due("run after dump", desk.run(9, 9), CoverDesk.OK);
    }

    // Promise 8
    private static void lastAnswers() {
        CoverDesk desk = Desks.counting();
        desk.run(-2, 5);
        Due.due("last(0)", desk.last(0), 5);
        Due.due("last(1)", desk.last(1), 5);
        Due.due("last(2)", desk.last(2), 8);
        desk.run(8, -5);
        Due.due("last(0) of the second run", desk.last(0), 9);
        Due.due("last(1) of the second run", desk.last(1), -5);
        Due.due("last(2) of the second run", desk.last(2), 2);
        int[] others = {-1, 3, MIN, MAX};
        for (int which : others) {
            Due.due("last(" + which + ")", desk.last(which), 0);
        }
    }

    private static void lastSinceBuild() {
        CoverDesk desk = Desks.counting();
        desk.run(3, 1);
        desk.dump(0);
        Due.due("last(0) after dump", desk.last(0), 4);
        desk.merge(0);
        desk.weight(0, 1);
        Due.due("last(1) after weight", desk.last(1), 1);
        desk.build();
        for (int which = 0; which < 3; which++) {
            Due.due("last(" + which + ") after build", desk.last(which), 0);
        }
    }

    // Promises 11 and 12
    private static void countsOfEdgesAndBlocks() {
        CoverDesk desk = Desks.counting();
        Due.due("counts at first", Desks.counts(desk), "0 0 0 0");
        desk.run(0, 4);
        desk.run(0, 1);
        desk.run(0, 2);
        Due.due("counts", Desks.counts(desk), "4 3 3 3");
        Due.due("done(0)", desk.done(0), 7);
        Due.due("done(1)", desk.done(1), 3);
    }

    private static void countIsRefused() {
        CoverDesk desk = Desks.counting();
        desk.run(0, 4);
        int[] wrongEdges = {-1, 4, 36, 37, MIN, MAX};
        for (int edge : wrongEdges) {
            Due.due("count(" + edge + ")", desk.count(edge), CoverDesk.NONE);
        }
        desk.block(0, 0);
        int[] wrongBlocks = {-1, 2, 11, 12, MIN, MAX};
        for (int block : wrongBlocks) {
            Due.due("done(" + block + ")", desk.done(block), CoverDesk.NONE);
        }
    }

    // Promise 13
    private static void covered(CoverDesk desk, int... due) {
        for (int what = 0; what < due.length; what++) {
            Due.due("covered(" + what + ")", desk.covered(what), due[what]);
        }
    }

    private static void coveredAnswers() {
        CoverDesk desk = Desks.counting();
        covered(desk, 2, 0, 3, 0, 2, 0, 2, 0);
        desk.run(9, 0);
        covered(desk, 2, 2, 3, 2, 2, 1, 2, 0);
        desk.run(0, 500);
        covered(desk, 2, 2, 3, 3, 2, 2, 2, 1);
        desk.dump(0);
        covered(desk, 2, 0, 3, 0, 2, 0, 2, 0);
        desk.run(0, 500);
        covered(desk, 2, 1, 3, 1, 2, 1, 2, 1);
    }

    private static void coveredOfUnmetBlocks() {
        CoverDesk desk = Desks.built(new int[] {0, 0, 0}, new int[] {0, 0, 5, 0, 1, 2}, new int[] {0, 0, 3, 1, 1});
        desk.run(0, 0);
        covered(desk, 3, 1, 6, 1, 1, 1, 4, 0);
    }

    private static void coveredIsRefused() {
        CoverDesk desk = Desks.counting();
        int[] others = {-1, 8, MIN, MAX};
        for (int what : others) {
            Due.due("covered(" + what + ")", desk.covered(what), CoverDesk.NONE);
        }
    }
}
