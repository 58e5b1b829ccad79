/** A CoverDesk whose calls are counted: what one answers after its 512th call is free, so no test may lean on it. */
final class Desk {
    static final int CALLS = 512;

    private final CoverDesk desk = new CoverDesk();
    private int calls = 0;

    private CoverDesk nextCall() {
        calls++;
        if (calls > CALLS) {
            throw new IllegalStateException("a test makes more calls than an object is used for");
        }
        return desk;
    }

    int calls() {
        return calls;
    }

    int block(int op, int a) {
        return nextCall().block(op, a);
    }

    boolean exits(int block, int kind, int first, int second, int third) {
        return nextCall().exits(block, kind, first, second, third);
    }

    int clear() {
        return nextCall().clear();
    }

    int build() {
        return nextCall().build();
    }

    boolean weight(int edge, int w) {
        return nextCall().weight(edge, w);
    }

    int run(int x, int y) {
        return nextCall().run(x, y);
    }

    int last(int which) {
        return nextCall().last(which);
    }

    int edge(int edge, int what) {
        return nextCall().edge(edge, what);
    }

    int probe(int k) {
        return nextCall().probe(k);
    }

    int count(int edge) {
        return nextCall().count(edge);
    }

    int done(int block) {
        return nextCall().done(block);
    }

    int covered(int what) {
        return nextCall().covered(what);
    }

    int path(int k) {
        return nextCall().path(k);
    }

    int pathEdge(int k, int i) {
        return nextCall().pathEdge(k, i);
    }

    boolean dump(int d) {
        return nextCall().dump(d);
    }

    boolean merge(int d) {
        return nextCall().merge(d);
    }
}
