import java.util.LinkedHashMap;
import java.util.Map;

/**
 * Each call that is refused changes nothing: it is made on one of two desks that are alike, and then no row of
 * later calls, reads and changes, tells the two apart.
 */
public final class RefusalTest {
    private static final int MIN = Integer.MIN_VALUE;
    private static final int MAX = Integer.MAX_VALUE;
    private static final int FALSE = 0;
    private static final int NONE = CoverDesk.NONE;
    private static final int MANY = CoverDesk.MANY;

    private interface Scene {
        Desk made();
    }

    private interface Call {
        int on(Desk desk);
    }

    private interface Later {
        String on(Desk desk);
    }

    private static final Map<String, Later> LATER = new LinkedHashMap<>();

    public static void main(String[] args) {
        tellLaterCalls();
        blockOfNoOp();
        blockBehindTwelve();
        exitsOfNoBlock();
        exitsOfNoKind();
        exitsToNoTarget();
        buildOfNoBlocks();
        buildOfExitsToNoBlock();
        weightOfNoEdge();
        runOfNothing();
        runBehindTheLast();
        lastOfOthers();
        edgeThatIsNone();
        probeThatIsNone();
        countOfNoEdge();
        doneOfNoBlock();
        coveredOfOthers();
        pathThatIsNone();
        pathsThatAreMany();
        dumpThatIsNone();
        dumpOfNothing();
        mergeOfNoDump();
        mergeOfAnEmptyDump();
        mergeAfterBuildOrWeight();
        mergeOfTooManyRuns();
        Due.finish();
    }

    // What may follow upon a refused call

    private static void tellLaterCalls() {
        LATER.put("reads", Desks::shown);
        LATER.put("runs", desk -> desk.run(2, 5) + " " + desk.run(0, 1000) + Desks.shown(desk));
        LATER.put("merges", desk -> desk.merge(0) + Desks.counts(desk) + desk.merge(1) + Desks.shown(desk));
        LATER.put("dumps", desk -> desk.dump(1) + " " + desk.merge(0) + Desks.counts(desk) + desk.merge(1) + Desks.shown(desk));
        LATER.put("a build", desk -> desk.build() + " " + desk.run(1, 4) + desk.merge(0) + Desks.shown(desk));
        LATER.put("a weight", desk -> desk.weight(0, -7) + " " + desk.run(1, 4) + desk.merge(0) + Desks.shown(desk));
        LATER.put("new blocks", RefusalTest::moreBlocks);
        LATER.put("new exits", RefusalTest::otherExits);
        LATER.put("a clear", desk -> desk.clear() + " " + desk.build() + desk.block(1, 3) + desk.build() + desk.run(1, 4) + Desks.shown(desk));
    }

    private static String moreBlocks(Desk desk) {
        StringBuilder all = new StringBuilder();
        all.append(desk.block(1, 3)).append(' ').append(desk.build());
        for (int i = 0; i < 12; i++) {
            all.append(' ').append(desk.block(2, i));
        }
        all.append(' ').append(desk.build()).append(' ').append(desk.run(1, 4)).append(Desks.shown(desk));
        return all.toString();
    }

    private static String otherExits(Desk desk) {
        StringBuilder all = new StringBuilder();
        for (int block = 11; block >= 0; block--) {
            all.append(desk.exits(block, 0, 0, 0, 0)).append(' ').append(desk.build()).append(' ');
        }
        return all.append(desk.run(1, 4)).append(Desks.shown(desk)).toString();
    }

    private static void refuse(String call, Scene scene, Call refused, int due) {
        for (Map.Entry<String, Later> later : LATER.entrySet()) {
            Desk touched = scene.made();
            Desk untouched = scene.made();
            Due.due(call, refused.on(touched), due);
            String want = later.getValue().on(untouched);
            Due.due(later.getKey() + " after " + call, later.getValue().on(touched), want);
        }
    }

    private static int told(boolean answer) {
        return answer ? 1 : 0;
    }

    // Where calls are refused

    /** Three blocks that are not built. */
    private static Desk draft() {
        Desk desk = new Desk();
        Desks.write(desk, new int[] {1, 2, 5, 0, 1, 2}, new int[] {2, -1, 2, 0, 1}, new int[] {6, 0, 0});
        return desk;
    }

    /** Built, weighed and run; a dump is kept in 0 and none in 1; the blocks have been changed since. */
    private static Desk used() {
        Desk desk = Desks.counting();
        desk.weight(2, 5);
        desk.run(0, 3);
        desk.run(0, 300);
        desk.dump(0);
        desk.run(0, 4);
        desk.run(0, 500);
        desk.run(7, -2);
        Desks.write(desk, new int[] {7, 3, 5, 0, 1, 2});
        return desk;
    }

    /** As used, with 12 other blocks in a row, each of which leaves its trace in X. */
    private static Desk full() {
        Desk desk = used();
        desk.clear();
        for (int block = 0; block < 12; block++) {
            Due.due("block " + block, desk.block(1, 1 << block), block);
            desk.exits(block, block == 11 ? 0 : 1, block + 1, 0, 0);
        }
        return desk;
    }

    /** As used, with no blocks. */
    private static Desk cleared() {
        Desk desk = used();
        desk.clear();
        return desk;
    }

    /** As used, with dumps that were kept before a build. */
    private static Desk builtAnew() {
        Desk desk = used();
        desk.dump(1);
        desk.build();
        desk.run(3, 9);
        return desk;
    }

    /** As used, with dumps that were kept before a weight. */
    private static Desk weighedAnew() {
        Desk desk = used();
        desk.dump(1);
        desk.weight(1, 9);
        desk.run(3, 9);
        return desk;
    }

    /** 1000000 runs, the last one unlike the others; 999999 of them are kept in dump 0, and none in 1. */
    private static Desk million() {
        Desk desk = Desks.counting();
        Millions.fill(desk, 999999, 0, 3);
        desk.dump(0);
        desk.merge(0);
        Due.due("run 1000000", desk.run(0, 500), CoverDesk.CUT);
        return desk;
    }

    /** 3 to the power of 6 paths. */
    private static Desk many() {
        Desk desk = Desks.withBlocks(7);
        for (int block = 0; block < 6; block++) {
            desk.exits(block, 5, block + 1, block + 1, block + 1);
        }
        desk.build();
        desk.run(1, 2);
        desk.dump(0);
        desk.run(2, 1);
        return desk;
    }

    // Promise 2

    private static void blockOfNoOp() {
        for (int op : new int[] {-1, 8, MIN, MAX}) {
            refuse("block(" + op + ", 5) on a new object", Desk::new, desk -> desk.block(op, 5), NONE);
            refuse("block(" + op + ", 5) behind others", RefusalTest::used, desk -> desk.block(op, 5), NONE);
        }
    }

    private static void blockBehindTwelve() {
        for (int op = -1; op <= 8; op++) {
            int each = op;
            refuse("block(" + op + ", 5) behind 12", RefusalTest::full, desk -> desk.block(each, 5), NONE);
        }
    }

    // Promise 3

    private static void exitsOfNoBlock() {
        refuse("exits(0, ..) without blocks", Desk::new, desk -> told(desk.exits(0, 1, 0, 0, 0)), FALSE);
        refuse("exits(0, ..) after clear", RefusalTest::cleared, desk -> told(desk.exits(0, 1, 0, 0, 0)), FALSE);
        for (int block : new int[] {-1, 3, 11, 12, MIN, MAX}) {
            refuse("exits(" + block + ", ..) of 3", RefusalTest::draft, desk -> told(desk.exits(block, 1, 1, 2, 0)), FALSE);
        }
        for (int block : new int[] {-1, 12, MIN, MAX}) {
            refuse("exits(" + block + ", ..) of 12", RefusalTest::full, desk -> told(desk.exits(block, 1, 1, 2, 0)), FALSE);
        }
    }

    private static void exitsOfNoKind() {
        for (int kind : new int[] {-1, 6, MIN, MAX}) {
            for (int block = 0; block < 3; block++) {
                int each = block;
                refuse("exits(" + block + ", " + kind + ", ..)", RefusalTest::draft, desk -> told(desk.exits(each, kind, 1, 2, 0)), FALSE);
            }
        }
    }

    private static void exitsToNoTarget() {
        for (int target : new int[] {-1, 12, MIN, MAX}) {
            for (int kind = 1; kind <= 5; kind++) {
                for (int block = 0; block < 3; block++) {
                    refuseTarget(block, kind, target);
                }
            }
        }
    }

    /** The wrong target stands in each place that the kind uses; the others would be right, and new there. */
    private static void refuseTarget(int block, int kind, int target) {
        String call = "exits(" + block + ", " + kind + ", ..) with " + target;
        refuse(call + " first", RefusalTest::draft, desk -> told(desk.exits(block, kind, target, 2, 0)), FALSE);
        if (kind >= 2) {
            refuse(call + " second", RefusalTest::draft, desk -> told(desk.exits(block, kind, 1, target, 0)), FALSE);
        }
        if (kind == 5) {
            refuse(call + " third", RefusalTest::draft, desk -> told(desk.exits(block, kind, 1, 2, target)), FALSE);
        }
    }

    // Promise 5

    private static void buildOfNoBlocks() {
        refuse("build() of no blocks, nothing built", Desk::new, Desk::build, NONE);
        refuse("build() of no blocks", RefusalTest::cleared, Desk::build, NONE);
    }

    private static void buildOfExitsToNoBlock() {
        for (int target : new int[] {3, 11}) {
            refuseBuild(RefusalTest::draft, target);
            refuseBuild(RefusalTest::used, target);
            refuseBuild(RefusalTest::weighedAnew, target);
        }
    }

    private static void refuseBuild(Scene scene, int target) {
        for (int block = 0; block < 3; block++) {
            refuseBuild(scene, block, 1, target, 0, 0);
            refuseBuild(scene, block, 2, 0, target, 0);
            refuseBuild(scene, block, 5, 0, 0, target);
        }
    }

    private static void refuseBuild(Scene scene, int block, int kind, int first, int second, int third) {
        Scene farLed = () -> {
            Desk desk = scene.made();
            Due.due("exits to a block that is not there", desk.exits(block, kind, first, second, third), true);
            return desk;
        };
        refuse("build() where block " + block + " leads too far", farLed, Desk::build, NONE);
    }

    // Promise 6

    private static void weightOfNoEdge() {
        for (int edge : new int[] {-1, 0, MIN, MAX}) {
            refuse("weight(" + edge + ", 3) of nothing", Desk::new, desk -> told(desk.weight(edge, 3)), FALSE);
            refuse("weight(" + edge + ", 3) of what is not built", RefusalTest::draft, desk -> told(desk.weight(edge, 3)), FALSE);
        }
        for (int edge : new int[] {-1, 4, 5, 36, 37, MIN, MAX}) {
            refuse("weight(" + edge + ", 3) of 4", RefusalTest::used, desk -> told(desk.weight(edge, 3)), FALSE);
            refuse("weight(" + edge + ", 3) of 4, 1000000 runs", RefusalTest::million, desk -> told(desk.weight(edge, 3)), FALSE);
        }
    }

    // Promise 7

    private static void runOfNothing() {
        refuse("run(1, 2) of nothing", Desk::new, desk -> desk.run(1, 2), NONE);
        refuse("run(1, 2) of what is not built", RefusalTest::draft, desk -> desk.run(1, 2), NONE);
    }

    private static void runBehindTheLast() {
        refuse("run(0, 3), 1000000 are counted", RefusalTest::million, desk -> desk.run(0, 3), NONE);
        refuse("run(0, 600), 1000000 are counted", RefusalTest::million, desk -> desk.run(0, 600), NONE);
    }

    // Promises 8 to 15

    /** Answered by 0, not refused, but as much without a change. */
    private static void lastOfOthers() {
        for (int which : new int[] {-1, 3, MIN, MAX}) {
            refuse("last(" + which + ")", RefusalTest::used, desk -> desk.last(which), 0);
        }
    }

    private static void edgeThatIsNone() {
        refuse("edge(0, 0) of nothing", Desk::new, desk -> desk.edge(0, 0), NONE);
        refuse("edge(0, 5) of what is not built", RefusalTest::draft, desk -> desk.edge(0, 5), NONE);
        for (int wrong : new int[] {-1, 6, MIN, MAX}) {
            refuse("edge(" + wrong + ", 3)", RefusalTest::used, desk -> desk.edge(wrong, 3), NONE);
            refuse("edge(2, " + wrong + ")", RefusalTest::used, desk -> desk.edge(2, wrong), NONE);
        }
    }

    private static void probeThatIsNone() {
        refuse("probe(0) of nothing", Desk::new, desk -> desk.probe(0), NONE);
        refuse("probe(0) of what is not built", RefusalTest::draft, desk -> desk.probe(0), NONE);
        for (int k : new int[] {-1, 2, MIN, MAX}) {
            refuse("probe(" + k + ") of 2", RefusalTest::used, desk -> desk.probe(k), NONE);
        }
    }

    private static void countOfNoEdge() {
        refuse("count(0) of nothing", Desk::new, desk -> desk.count(0), NONE);
        refuse("count(0) of what is not built", RefusalTest::draft, desk -> desk.count(0), NONE);
        for (int edge : new int[] {-1, 4, MIN, MAX}) {
            refuse("count(" + edge + ") of 4", RefusalTest::used, desk -> desk.count(edge), NONE);
        }
    }

    private static void doneOfNoBlock() {
        refuse("done(0) of nothing", Desk::new, desk -> desk.done(0), NONE);
        refuse("done(0) of what is not built", RefusalTest::draft, desk -> desk.done(0), NONE);
        for (int block : new int[] {-1, 2, MIN, MAX}) {
            refuse("done(" + block + ") of 2", RefusalTest::used, desk -> desk.done(block), NONE);
        }
    }

    private static void coveredOfOthers() {
        for (int what = 0; what < 8; what++) {
            int each = what;
            refuse("covered(" + what + ") of nothing", Desk::new, desk -> desk.covered(each), NONE);
            refuse("covered(" + what + ") of what is not built", RefusalTest::draft, desk -> desk.covered(each), NONE);
        }
        for (int what : new int[] {-1, 8, MIN, MAX}) {
            refuse("covered(" + what + ")", RefusalTest::used, desk -> desk.covered(what), NONE);
        }
    }

    private static void pathThatIsNone() {
        refuse("path(0) of nothing", Desk::new, desk -> desk.path(0), NONE);
        refuse("pathEdge(0, 0) of what is not built", RefusalTest::draft, desk -> desk.pathEdge(0, 0), NONE);
        for (int k : new int[] {-1, 2, MIN, MAX}) {
            refuse("path(" + k + ") of 2", RefusalTest::used, desk -> desk.path(k), NONE);
            refuse("pathEdge(" + k + ", 0) of 2", RefusalTest::used, desk -> desk.pathEdge(k, 0), NONE);
            refuse("pathEdge(1, " + k + ") of 2", RefusalTest::used, desk -> desk.pathEdge(1, k), NONE);
        }
    }

    private static void pathsThatAreMany() {
        refuse("path(0) of MANY", RefusalTest::many, desk -> desk.path(0), NONE);
        refuse("pathEdge(0, 0) of MANY", RefusalTest::many, desk -> desk.pathEdge(0, 0), NONE);
        refuse("covered(4) of MANY", RefusalTest::many, desk -> desk.covered(4), MANY);
        refuse("covered(5) of MANY", RefusalTest::many, desk -> desk.covered(5), MANY);
    }

    // Promise 16

    private static void dumpThatIsNone() {
        for (int d : new int[] {-1, 2, MIN, MAX}) {
            refuse("dump(" + d + ")", RefusalTest::used, desk -> told(desk.dump(d)), FALSE);
            refuse("dump(" + d + ") of 1000000 runs", RefusalTest::million, desk -> told(desk.dump(d)), FALSE);
        }
    }

    private static void dumpOfNothing() {
        for (int d = 0; d < 2; d++) {
            int each = d;
            refuse("dump(" + d + ") of nothing", Desk::new, desk -> told(desk.dump(each)), FALSE);
            refuse("dump(" + d + ") of what is not built", RefusalTest::draft, desk -> told(desk.dump(each)), FALSE);
        }
    }

    // Promise 17

    private static void mergeOfNoDump() {
        for (int d : new int[] {-1, 2, MIN, MAX}) {
            refuse("merge(" + d + ")", RefusalTest::used, desk -> told(desk.merge(d)), FALSE);
        }
    }

    private static void mergeOfAnEmptyDump() {
        for (int d = 0; d < 2; d++) {
            int each = d;
            refuse("merge(" + d + ") of nothing", Desk::new, desk -> told(desk.merge(each)), FALSE);
            refuse("merge(" + d + ") of what is not built", RefusalTest::draft, desk -> told(desk.merge(each)), FALSE);
        }
        refuse("merge(1), empty", RefusalTest::used, desk -> told(desk.merge(1)), FALSE);
    }

    private static void mergeAfterBuildOrWeight() {
        for (int d = 0; d < 2; d++) {
            int each = d;
            refuse("merge(" + d + ") after build", RefusalTest::builtAnew, desk -> told(desk.merge(each)), FALSE);
            refuse("merge(" + d + ") after weight", RefusalTest::weighedAnew, desk -> told(desk.merge(each)), FALSE);
        }
    }

    private static void mergeOfTooManyRuns() {
        refuse("merge(0) to 1999999 runs", RefusalTest::million, desk -> told(desk.merge(0)), FALSE);
        Scene two = () -> {
            Desk desk = million();
            desk.dump(1);
            desk.run(5, 1);
            desk.run(5, 500);
            return desk;
        };
        refuse("merge(0) to 1000001 runs", two, desk -> told(desk.merge(0)), FALSE);
        refuse("merge(1) to 1000002 runs", two, desk -> told(desk.merge(1)), FALSE);
    }
}
