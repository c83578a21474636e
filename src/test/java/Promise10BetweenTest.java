public final class Promise10BetweenTest {
    public static void main(String[] args) {
        ordinary();
        edges();
        sameRegisters();
        wrongInputs();
        Due.end();
    }

    private static void ordinary() {
        gives(13, 11, 6, 5, 6, 5);
        gives(1, 3, 1, 2, 1, 2);
        gives(2, 7, 3, 8, 1, 3);
        gives(-3, 8, -2, 7, -1, 3);
        gives(314, 100, 315, 100, 22, 7);
        gives(-315, 100, -314, 100, -22, 7);
        gives(3, 10, 7, 10, 1, 2);
        gives(5, 4, 7, 4, 3, 2);
        gives(1000, 1001, 9998, 9999, 1000, 1001);
    }

    private static void edges() {
        // Several whole numbers: the smallest value, which isn't the one nearest to 0.
        gives(13, 11, -22, 7, -3, 1);
        gives(-1, 2, 1, 2, 0, 1);
        gives(-9999, 1, 9999, 1, -9999, 1);
        gives(-7, 2, -1, 2, -3, 1);
        gives(1, 2, 9, 2, 1, 1);
        // The ends themselves belong to it.
        gives(3, 2, 2, 1, 2, 1);
        gives(2, 1, 5, 2, 2, 1);
        gives(-2, 1, -3, 2, -2, 1);
        gives(-5, 2, -2, 1, -2, 1);
        gives(0, 1, 1, 9999, 0, 1);
        gives(-1, 9999, 0, 1, 0, 1);
        gives(5, 7, 5, 7, 5, 7);
        gives(-9999, 9998, -9999, 9998, -9999, 9998);
        gives(9999, 9998, 9998, 9997, 9998, 9997);
        gives(-9999, 9998, -9998, 9997, -9998, 9997);
        gives(1, 9999, 1, 9998, 1, 9998);
        gives(9998, 9999, 1, 9999, 1, 2);
        gives(6765, 4181, 2584, 1597, 2584, 1597);
        gives(9999, 2, 9997, 2, 4999, 1);
    }

    /** In both orders, and nothing but register d changes. */
    private static void gives(int p, int q, int s, int t, int top, int bottom) {
        GosperFractions x = Due.with(p, q, s, t, 3, 5, 3, 5);
        String call = "between(2, 0, 1) of " + p + " / " + q + " and " + s + " / " + t;
        long topBefore = x.top(0);
        long bottomBefore = x.bottom(0);
        Due.is(call, x.between(2, 0, 1), bottom);
        Due.holds(call, x, 2, top, bottom);
        Due.is(call, x.between(3, 1, 0), bottom);
        Due.holds(call + ", turned round", x, 3, top, bottom);
        Due.is(call + ": top(0)", x.top(0), topBefore);
        Due.is(call + ": bottom(0)", x.bottom(0), bottomBefore);
    }

    private static void sameRegisters() {
        GosperFractions x = Due.with(2, 7, 3, 8, 3, 5, 3, 5);
        Due.is("between(0, 0, 1)", x.between(0, 0, 1), 3);
        Due.holds("between(0, 0, 1)", x, 0, 1, 3);
        Due.holds("between(0, 0, 1)", x, 1, 3, 8);
        Due.is("between(1, 1, 1)", x.between(1, 1, 1), 8);
        Due.holds("between(1, 1, 1)", x, 1, 3, 8);
        Due.holds("between(1, 1, 1)", x, 2, 3, 5);
    }

    private static void wrongInputs() {
        GosperFractions x = Due.with(1, 3, 1, 2, 3, 5, 4, 5);
        for (int r : Due.WRONG_REGISTERS) {
            Due.is("between(" + r + ", 0, 1)", x.between(r, 0, 1), GosperFractions.BAD);
            Due.is("between(2, " + r + ", 1)", x.between(2, r, 1), GosperFractions.BAD);
            Due.is("between(2, 0, " + r + ")", x.between(2, 0, r), GosperFractions.BAD);
        }
        Due.holds("wrong betweens", x, 0, 1, 3);
        Due.holds("wrong betweens", x, 1, 1, 2);
        Due.holds("wrong betweens", x, 2, 3, 5);
        Due.holds("wrong betweens", x, 3, 4, 5);
    }
}
