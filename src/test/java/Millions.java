/** Brings a desk to many runs with few calls. */
final class Millions {
    private Millions() {
    }

    /** Counts a number of runs of the same x and y, doubling by dump 0 from the number's highest bit on. */
    static void fill(Desk desk, int runs, int x, int y) {
        desk.run(x, y);
        for (int bit = 31 - Integer.numberOfLeadingZeros(runs) - 1; bit >= 0; bit--) {
            desk.dump(0);
            desk.merge(0);
            desk.merge(0);
            if ((runs >> bit & 1) == 1) {
                desk.run(x, y);
            }
        }
    }
}
