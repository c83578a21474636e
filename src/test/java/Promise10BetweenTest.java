public final class Promise10BetweenTest {
    public static void main(String[] args) {
        gives(13, 11, 6, 5, 6, 5);
        gives(13, 11, -22, 7, -3, 1);
        gives(1, 3, 1, 2, 1, 2);
        gives(2, 7, 3, 8, 1, 3);
        gives(-3, 8, -2, 7, -1, 3);
        gives(314, 100, 315, 100, 22, 7);
        gives(-315, 100, -314, 100, -22, 7);
        gives(3, 10, 7, 10, 1, 2);
        gives(5, 4, 7, 4, 3, 2);
        gives(1000, 1001, 9998, 9999, 1000, 1001);
        gives(-1, 2, 1, 2, 0, 1);
        sameRegisters();
        Due.end();
    }

    /** In both orders, and nothing but register d changes. */
    private static void gives(int p, int q, int s, int t, int top, int bottom) {
        GosperFractions x = Due.with(p, q, s, t, 3, 5, 3, 5);
        String fractions = " of " + p + " / " + q + " and " + s + " / " + t;
        Due.changesOnly(2, top, bottom, "between(2, 0, 1)" + fractions, x, () -> x.between(2, 0, 1), bottom);
        Due.changesOnly(3, top, bottom, "between(3, 1, 0)" + fractions, x, () -> x.between(3, 1, 0), bottom);
    }

    private static void sameRegisters() {
        GosperFractions x = Due.with(2, 7, 3, 8, 3, 5, 3, 5);
        Due.changesOnly(0, 1, 3, "between(0, 0, 1)", x, () -> x.between(0, 0, 1), 3);
        Due.changesNothing("between(1, 1, 1)", x, () -> x.between(1, 1, 1), 8);
        Due.changesNothing("between(1, 4, 1)", x, () -> x.between(1, 4, 1), GosperFractions.BAD);
    }
}
