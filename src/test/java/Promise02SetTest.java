public final class Promise02SetTest {
    public static void main(String[] args) {
        ordinary();
        edges();
        wrongInputs();
        Due.end();
    }

    private static void ordinary() {
        for (int r = 0; r < 4; r++) {
            GosperFractions x = new GosperFractions();
            Due.is("set(" + r + ", 13, 11)", x.set(r, 13, 11), true);
            for (int other = 0; other < 4; other++) {
                Due.holds("set(" + r + ", 13, 11)", x, other, other == r ? 13 : 0, other == r ? 11 : 1);
            }
        }
        lowest(6, 4, 3, 2);
        lowest(-6, 4, -3, 2);
        lowest(4, 6, 2, 3);
        lowest(9000, 9, 1000, 1);
        lowest(7, 7, 1, 1);
        lowest(-7, 7, -1, 1);
        lowest(0, 5, 0, 1);
        lowest(6765, 4181, 6765, 4181);
    }

    private static void edges() {
        lowest(9999, 1, 9999, 1);
        lowest(-9999, 1, -9999, 1);
        lowest(9999, 9999, 1, 1);
        lowest(-9999, 9999, -1, 1);
        lowest(1, 9999, 1, 9999);
        lowest(-9999, 9998, -9999, 9998);
        lowest(0, 9999, 0, 1);
    }

    private static void lowest(int p, int q, int top, int bottom) {
        Due.holds("set(0, " + p + ", " + q + ")", Due.with(p, q), 0, top, bottom);
    }

    private static void wrongInputs() {
        GosperFractions x = Due.with(2, 3, 2, 3, 2, 3, 2, 3);
        for (int r : Due.WRONG_REGISTERS) {
            refused(x, r, 1, 2);
        }
        for (int p : new int[] {10000, -10000, 20000, Integer.MAX_VALUE, Integer.MIN_VALUE}) {
            refused(x, 0, p, 1);
            // What counts is p itself, not what would be left of it in lowest terms.
            refused(x, 0, p, 100);
        }
        for (int q : new int[] {0, -1, -9999, 10000, 20000, Integer.MAX_VALUE, Integer.MIN_VALUE}) {
            refused(x, 0, 1, q);
            refused(x, 0, 100, q);
            refused(x, 0, 0, q);
        }
    }

    private static void refused(GosperFractions x, int r, int p, int q) {
        String call = "set(" + r + ", " + p + ", " + q + ")";
        Due.is(call, x.set(r, p, q), false);
        for (int each = 0; each < 4; each++) {
            Due.holds(call, x, each, 2, 3);
        }
    }
}
