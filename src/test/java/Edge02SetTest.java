/** "r outside 0..3, p outside -9999..9999 or q outside 1..9999: refused, answers false. Else true." */
public final class Edge02SetTest {
    private static final int[] WRONG_TOPS = {-10000, 10000, -10001, 10001, 65536, Integer.MIN_VALUE, Integer.MAX_VALUE};
    private static final int[] WRONG_BOTTOMS = {0, 10000, -1, 10001, -9999, 65536, 65537, Integer.MIN_VALUE, Integer.MAX_VALUE};

    public static void main(String[] args) {
        lastInside();
        registerOutside();
        topOutside();
        bottomOutside();
        allOutside();
        Due.end();
    }

    private static void lastInside() {
        for (int r = 0; r < 4; r++) {
            taken(r, -9999, 1);
            taken(r, 9999, 1);
            taken(r, 1, 9999);
            taken(r, -1, 9999);
            taken(r, -9999, 9998);
            taken(r, 9998, 9999);
        }
        Due.holds("set(0, 0, 9999)", Due.with(0, 9999), 0, 0, 1);
        Due.holds("set(0, 9999, 9999)", Due.with(9999, 9999), 0, 1, 1);
        Due.holds("set(0, -9999, 9999)", Due.with(-9999, 9999), 0, -1, 1);
        Due.holds("set(0, 9998, 2)", Due.with(9998, 2), 0, 4999, 1);
    }

    /** For a fraction that is in lowest terms already. */
    private static void taken(int r, int p, int q) {
        GosperFractions x = Due.filled();
        String call = "set(" + r + ", " + p + ", " + q + ")";
        Due.changesOnly(r, p, q, call, x, () -> x.set(r, p, q) ? 1 : 0, 1);
    }

    private static void registerOutside() {
        for (int r : Due.WRONG_REGISTERS) {
            refused(r, 1, 2);
            refused(r, 0, 1);
            refused(r, -9999, 9999);
        }
    }

    /** What counts is p itself, not what would be left of it in lowest terms. */
    private static void topOutside() {
        for (int p : WRONG_TOPS) {
            for (int r = 0; r < 4; r++) {
                refused(r, p, 1);
            }
            refused(0, p, 2);
            refused(0, p, 5000);
            refused(0, p, 9999);
        }
    }

    private static void bottomOutside() {
        for (int q : WRONG_BOTTOMS) {
            for (int r = 0; r < 4; r++) {
                refused(r, 1, q);
            }
            refused(0, 0, q);
            refused(0, -1, q);
            refused(0, 5000, q);
            refused(0, 9999, q);
            refused(0, -9999, q);
        }
    }

    private static void allOutside() {
        for (int wrong : new int[] {-10000, 10000, Integer.MIN_VALUE, Integer.MAX_VALUE}) {
            refused(0, wrong, wrong);
            refused(wrong, wrong, 1);
            refused(wrong, 1, wrong);
            refused(wrong, wrong, wrong);
        }
    }

    private static void refused(int r, int p, int q) {
        GosperFractions x = Due.filled();
        Due.changesNothing("set(" + r + ", " + p + ", " + q + ")", x, () -> x.set(r, p, q) ? 1 : 0, 0);
    }
}
