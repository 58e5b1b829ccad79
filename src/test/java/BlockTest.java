/** What the terms say of a block: its op, which wraps, and the exit by which it leaves. */
public final class BlockTest {
    private static final int MIN = Integer.MIN_VALUE;
    private static final int MAX = Integer.MAX_VALUE;

    public static void main(String[] args) {
        ops();
        opsTakeAnyInt();
        addingToXWraps();
        addingToYWraps();
        takingXFromYWraps();
        multiplyingYWraps();
        wrappedValuesGoOn();
        endAndGoHaveOneExit();
        lessAndNotLess();
        oddAndEven();
        zeroAndItsNeighbours();
        switchOnTheClock();
        exitsAreChosenAfterTheOp();
        Due.finish();
    }

    private static void op(int op, int a, int x, int y, int dueX, int dueY) {
        Desk desk = Desks.built(new int[] {op, a, 0});
        String call = "op " + op + " with " + a + " on " + x + ", " + y;
        Due.due(call, desk.run(x, y), CoverDesk.OK);
        Due.due(call + ": X", desk.last(0), dueX);
        Due.due(call + ": Y", desk.last(1), dueY);
    }

    // "0 nothing   1 X += A   2 Y += A   3 X = Y   4 Y -= X   5 X = A   6 exchanges X and Y   7 Y *= A"
    private static void ops() {
        op(0, 9, 3, 5, 3, 5);
        op(1, 9, 3, 5, 12, 5);
        op(2, 9, 3, 5, 3, 14);
        op(3, 9, 3, 5, 5, 5);
        op(4, 9, 3, 5, 3, 2);
        op(5, 9, 3, 5, 9, 5);
        op(6, 9, 3, 5, 5, 3);
        op(7, 9, 3, 5, 3, 45);
    }

    // "two variables X and Y, ints", and "an int A"
    private static void opsTakeAnyInt() {
        op(0, MAX, MIN, MAX, MIN, MAX);
        op(3, 0, MIN, MAX, MAX, MAX);
        op(3, 0, MAX, MIN, MIN, MIN);
        op(5, MIN, 0, 0, MIN, 0);
        op(5, MAX, 0, 0, MAX, 0);
        op(6, 0, MIN, MAX, MAX, MIN);
        op(7, 0, 5, MIN, 5, 0);
        op(7, MIN, 5, 1, 5, MIN);
    }

    // "(all wrap)"
    private static void addingToXWraps() {
        op(1, 1, MAX - 1, 4, MAX, 4);
        op(1, 1, MAX, 4, MIN, 4);
        op(1, -1, MIN + 1, 4, MIN, 4);
        op(1, -1, MIN, 4, MAX, 4);
        op(1, MAX, MAX, 4, -2, 4);
        op(1, MIN, MIN, 4, 0, 4);
    }

    private static void addingToYWraps() {
        op(2, 1, 4, MAX - 1, 4, MAX);
        op(2, 1, 4, MAX, 4, MIN);
        op(2, -1, 4, MIN + 1, 4, MIN);
        op(2, -1, 4, MIN, 4, MAX);
        op(2, MAX, 4, MAX, 4, -2);
        op(2, MIN, 4, MIN, 4, 0);
    }

    private static void takingXFromYWraps() {
        op(4, 0, 1, MIN + 1, 1, MIN);
        op(4, 0, 1, MIN, 1, MAX);
        op(4, 0, -1, MAX - 1, -1, MAX);
        op(4, 0, -1, MAX, -1, MIN);
        op(4, 0, MIN, -1, MIN, MAX);
        op(4, 0, MIN, 0, MIN, MIN);
    }

    private static void multiplyingYWraps() {
        op(7, 46340, 4, 46340, 4, 2147395600);
        op(7, 46341, 4, 46341, 4, -2147479015);
        op(7, 2, 4, 1 << 30, 4, MIN);
        op(7, 2, 4, MIN, 4, 0);
        op(7, -1, 4, MIN + 1, 4, MAX);
        op(7, -1, 4, MIN, 4, MIN);
        op(7, 3, 4, MAX, 4, MAX - 2);
    }

    private static void wrappedValuesGoOn() {
        // X += 1 and IF X < Y: to be seen as the least int, not as one above the greatest.
        Desk desk = Desks.built(new int[] {1, 1, 2, 1, 2}, new int[] {0, 0, 0}, new int[] {0, 0, 0});
        desk.run(MAX - 1, 0);
        Due.due("not less, not wrapped", Desks.dones(desk), "1 0 1");
        desk.run(MAX, 0);
        Due.due("less, wrapped", Desks.dones(desk), "2 1 1");
    }

    /** Which exit of block 0 a run takes: its targets 1, 2 and 3 end and are told apart by what is done. */
    private static void exit(int kind, int x, int y, int due) {
        Desk desk = Desks.built(new int[] {0, 0, kind, 1, 2, 3}, new int[] {0, 0, 0}, new int[] {0, 0, 0}, new int[] {0, 0, 0});
        String call = "exit of kind " + kind + " on " + x + ", " + y;
        Due.due(call, desk.run(x, y), CoverDesk.OK);
        for (int exit = 0; exit < 3; exit++) {
            Due.due(call + ": block " + (exit + 1), desk.done(exit + 1), exit == due ? 1 : 0);
        }
        Due.due(call + ": edge", desk.count(due), 1);
    }

    // "kind 0 END: one exit, out of the program   1 GO: one exit"
    private static void endAndGoHaveOneExit() {
        for (int x : new int[] {MIN, -1, 0, 1, MAX}) {
            exit(1, x, 0, 0);
        }
        Desk desk = Desks.built(new int[] {0, 0, 0, 1, 1, 1}, new int[] {0, 0, 0});
        Due.due("run to END", desk.run(1, 2), CoverDesk.OK);
        Due.due("where END leads", desk.edge(0, 2), -1);
        Due.due("done", Desks.dones(desk), "1 0");
    }

    // "2 IF X < Y: exit 0, else exit 1"
    private static void lessAndNotLess() {
        exit(2, 3, 4, 0);
        exit(2, 4, 4, 1);
        exit(2, 5, 4, 1);
        exit(2, -1, 0, 0);
        exit(2, 0, -1, 1);
        exit(2, MAX - 1, MAX, 0);
        exit(2, MAX, MAX, 1);
        exit(2, MIN, MIN + 1, 0);
        exit(2, MIN, MIN, 1);
        exit(2, MIN, MAX, 0);
        exit(2, MAX, MIN, 1);
    }

    // "3 IF X is odd: exit 0, else exit 1"
    private static void oddAndEven() {
        exit(3, 1, 0, 0);
        exit(3, 0, 1, 1);
        exit(3, -1, 0, 0);
        exit(3, -2, 1, 1);
        exit(3, -3, 0, 0);
        exit(3, MAX, 0, 0);
        exit(3, MAX - 1, 1, 1);
        exit(3, MIN, 1, 1);
        exit(3, MIN + 1, 0, 0);
    }

    // "4 IF X is 0: exit 0, else exit 1"
    private static void zeroAndItsNeighbours() {
        exit(4, 0, 5, 0);
        exit(4, 1, 0, 1);
        exit(4, -1, 0, 1);
        exit(4, MIN, 0, 1);
        exit(4, MAX, 0, 1);
    }

    // "5 SWITCH: exit 0, 1, 2 as X is, modulo 3 (on the clock: -1 is 2)"
    private static void switchOnTheClock() {
        int[] xs = {0, 1, 2, 3, 4, 5, -1, -2, -3, -4, -5, -6, MAX - 1, MAX, MIN, MIN + 1};
        int[] due = {0, 1, 2, 0, 1, 2, 2, 1, 0, 2, 1, 0, 0, 1, 1, 2};
        for (int i = 0; i < xs.length; i++) {
            exit(5, xs[i], 7, due[i]);
        }
    }

    // "A block does its OP ..; then it leaves by one of its EXITS"
    private static void exitsAreChosenAfterTheOp() {
        Desk desk = Desks.built(new int[] {1, 1, 4, 1, 2}, new int[] {0, 0, 0}, new int[] {0, 0, 0});
        desk.run(-1, 0);
        Due.due("X is 0 behind the op", desk.done(1), 1);
        desk.run(0, 0);
        Due.due("X is 0 before the op", desk.done(2), 1);
    }
}
