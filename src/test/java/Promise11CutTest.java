public final class Promise11CutTest {
    public static void main(String[] args) {
        gives(13, 11, 1, 1, 1, 1);
        gives(13, 11, 2, 6, 5, 2);
        gives(13, 11, 3, 13, 11, 3);
        gives(13, 11, 4, 13, 11, 3);
        gives(355, 113, 2, 22, 7, 2);
        gives(649, 200, 3, 159, 49, 3);
        gives(-22, 7, 1, -4, 1, 1);
        gives(-22, 7, 2, -3, 1, 1);
        gives(6765, 4181, 9, 55, 34, 8);
        GosperFractions x = Due.with(13, 11);
        Due.changesOnly(0, 6, 5, "cut(0, 0, 2)", x, () -> x.cut(0, 0, 2), 2);
        Due.changesNothing("cut(1, 0, 0)", x, () -> x.cut(1, 0, 0), GosperFractions.BAD);
        Due.end();
    }

    private static void gives(int p, int q, int count, int top, int bottom, int terms) {
        GosperFractions x = Due.with(3, 5, p, q, 3, 5, 3, 5);
        String call = "cut(3, 1, " + count + ") of " + p + " / " + q;
        Due.changesOnly(3, top, bottom, call, x, () -> x.cut(3, 1, count), terms);
        Due.is(call + ": terms(3)", x.terms(3), terms);
    }
}
