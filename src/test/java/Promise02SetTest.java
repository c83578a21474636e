public final class Promise02SetTest {
    public static void main(String[] args) {
        for (int r = 0; r < 4; r++) {
            into(r);
        }
        lowest(6, 4, 3, 2);
        lowest(-6, 4, -3, 2);
        lowest(4, 6, 2, 3);
        lowest(9000, 9, 1000, 1);
        lowest(7, 7, 1, 1);
        lowest(-7, 7, -1, 1);
        lowest(0, 5, 0, 1);
        lowest(6765, 4181, 6765, 4181);
        Due.end();
    }

    private static void into(int r) {
        GosperFractions x = Due.with(2, 3, 2, 3, 2, 3, 2, 3);
        Due.changesOnly(r, 13, 11, "set(" + r + ", 13, 11)", x, () -> x.set(r, 13, 11) ? 1 : 0, 1);
        Due.changesOnly(r, -1, 2, "set(" + r + ", -5, 10)", x, () -> x.set(r, -5, 10) ? 1 : 0, 1);
        Due.changesNothing("set(" + r + ", -1, 2) again", x, () -> x.set(r, -1, 2) ? 1 : 0, 1);
        Due.changesNothing("set(" + r + ", 3, 0)", x, () -> x.set(r, 3, 0) ? 1 : 0, 0);
    }

    private static void lowest(int p, int q, int top, int bottom) {
        Due.holds("set(0, " + p + ", " + q + ")", Due.with(p, q), 0, top, bottom);
    }
}
