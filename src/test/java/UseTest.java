/** "An object is used for at most 512 calls after it has been made; what later calls answer is free." */
public final class UseTest {
    private interface Call {
        int on(Desk desk);
    }

    public static void main(String[] args) {
        everyMethodAnswersInCall512();
        allOf512CallsCount();
        refusedCallsAreCallsToo();
        laterCallsEnd();
        Due.finish();
    }

    private static int told(boolean answer) {
        return answer ? 1 : 0;
    }

    /** Two runs of 3 and 100 blocks are counted, and one of 2 is kept in dump 1, when the last call is made. */
    private static void lastCall(String call, Call last, int due) {
        Desk desk = Desks.counting();
        desk.run(9, 1);
        desk.dump(1);
        desk.run(0, 2);
        desk.run(0, 500);
        while (desk.calls() < Desk.CALLS - 1) {
            desk.last(2);
        }
        Due.due("call 512: " + call, last.on(desk), due);
        Due.due("calls", desk.calls(), 512);
    }

    private static void everyMethodAnswersInCall512() {
        lastCall("block(7, 1)", desk -> desk.block(7, 1), 2);
        lastCall("exits(1, 5, 0, 11, 1)", desk -> told(desk.exits(1, 5, 0, 11, 1)), 1);
        lastCall("clear()", Desk::clear, 2);
        lastCall("build()", Desk::build, 4);
        lastCall("weight(3, 1)", desk -> told(desk.weight(3, 1)), 1);
        lastCall("run(0, 99)", desk -> desk.run(0, 99), CoverDesk.CUT);
        lastCall("last(0)", desk -> desk.last(0), 100);
        lastCall("edge(0, 4)", desk -> desk.edge(0, 4), 1);
        lastCall("probe(1)", desk -> desk.probe(1), 2);
        lastCall("count(0)", desk -> desk.count(0), 100);
        lastCall("done(0)", desk -> desk.done(0), 102);
        lastCall("covered(7)", desk -> desk.covered(7), 1);
        lastCall("path(1)", desk -> desk.path(1), 1);
        lastCall("pathEdge(1, 1)", desk -> desk.pathEdge(1, 1), 2);
        lastCall("dump(0)", desk -> told(desk.dump(0)), 1);
        lastCall("merge(1)", desk -> told(desk.merge(1)), 1);
    }

    private static void allOf512CallsCount() {
        Desk desk = Desks.counting();
        int runs = 0;
        while (desk.calls() < Desk.CALLS - 1) {
            Due.due("run", desk.run(0, 3), CoverDesk.OK);
            runs++;
        }
        Due.due("call 512: count of OUT", desk.count(3), runs);
    }

    private static void refusedCallsAreCallsToo() {
        Desk desk = new Desk();
        while (desk.calls() < Desk.CALLS - 5) {
            Due.due("run of nothing", desk.run(1, 1), CoverDesk.NONE);
        }
        Due.due("call 508: block", desk.block(5, 77), 0);
        Due.due("call 509: build", desk.build(), 2);
        Due.due("call 510: run", desk.run(1, 1), CoverDesk.OK);
        Due.due("call 511: last", desk.last(0), 77);
        Due.due("call 512: count", desk.count(1), 1);
    }

    /** What they answer is free, but LANGUAGE.md lets no call throw or fail to end. */
    private static void laterCallsEnd() {
        CoverDesk desk = new CoverDesk();
        int[] numbers = {0, 1, 2, -1, 11, 12, 36, 37, 300, Integer.MAX_VALUE, Integer.MIN_VALUE};
        for (int round = 0; round < 5; round++) {
            for (int i = 0; i < numbers.length; i++) {
                callAll(desk, numbers[i], numbers[(i + round) % numbers.length]);
            }
        }
    }

    private static void callAll(CoverDesk desk, int one, int other) {
        desk.block(one, other);
        desk.exits(0, other, one, other, one);
        desk.build();
        desk.weight(one, other);
        desk.run(one, other);
        desk.dump(one);
        desk.merge(one);
        desk.last(one);
        desk.edge(one, other);
        desk.probe(one);
        desk.count(one);
        desk.done(one);
        desk.covered(one);
        desk.path(one);
        desk.pathEdge(one, other);
        if (one == 37) {
            desk.clear();
        }
    }
}
