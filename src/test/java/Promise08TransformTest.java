public final class Promise08TransformTest {
    public static void main(String[] args) {
        gives(13, 11, 2001001003L, 37, 46, 4);
        gives(-1, 2, 1000001001L, -1, 1, 1);
        gives(5, 7, 1000000001L, 5, 7, 4);
        gives(5, 7, 1001000L, 7, 5, 3);
        gives(-5, 7, 1001000L, -7, 5, 4);
        gives(-5, 7, 12000000003L, -20, 7, 2);
        gives(4, 9, 34000017L, 2, 1, 1);
        gives(0, 1, 5006007008L, 3, 4, 3);
        gives(1, 2, 99099001000L, 297, 1, 1);
        sameRegister();
        refusals();
        Due.end();
    }

    private static void gives(int p, int q, long coefficients, int top, int bottom, int terms) {
        GosperFractions x = Due.with(p, q, 3, 5, 3, 5, 3, 5);
        String call = "transform(2, 0, " + coefficients + ") of " + p + " / " + q;
        Due.changesOnly(2, top, bottom, call, x, () -> x.transform(2, 0, coefficients), terms);
        Due.is(call + ": terms(2)", x.terms(2), terms);
    }

    private static void sameRegister() {
        GosperFractions x = Due.with(2, 3);
        Due.changesOnly(0, 5, 3, "transform(0, 0, 1001000001)", x, () -> x.transform(0, 0, 1001000001L), 3);
    }

    private static void refusals() {
        GosperFractions x = Due.with(9999, 1, -1, 2);
        Due.changesNothing("transform(2, 0, 100)", x, () -> x.transform(2, 0, 100L), GosperFractions.BAD);
        Due.changesNothing("transform(2, 1, 1001002001)", x, () -> x.transform(2, 1, 1001002001L), GosperFractions.NONE);
        Due.changesNothing("transform(2, 0, 2000000001)", x, () -> x.transform(2, 0, 2000000001L), GosperFractions.TOO_BIG);
    }
}
