public final class Promise11CutTest {
    public static void main(String[] args) {
        ordinary();
        edges();
        wrongInputs();
        Due.end();
    }

    private static void ordinary() {
        gives(13, 11, 1, 1, 1, 1);
        gives(13, 11, 2, 6, 5, 2);
        gives(13, 11, 3, 13, 11, 3);
        gives(355, 113, 2, 22, 7, 2);
        gives(649, 200, 3, 159, 49, 3);
        gives(-22, 7, 1, -4, 1, 1);
    }

    private static void edges() {
        // More terms than there are: all of them.
        gives(13, 11, 4, 13, 11, 3);
        gives(-22, 7, 1000, -22, 7, 3);
        gives(5, 1, Integer.MAX_VALUE, 5, 1, 1);
        gives(0, 1, 1, 0, 1, 1);
        gives(9999, 1, 1, 9999, 1, 1);
        gives(-9999, 1, 1, -9999, 1, 1);
        gives(-9999, 2, 1, -5000, 1, 1);
        // A last term 1 is taken into the one before it.
        gives(-22, 7, 2, -3, 1, 1);
        gives(-1, 3, 2, 0, 1, 1);
        gives(-9999, 9998, 2, -1, 1, 1);
        gives(6765, 4181, 9, 55, 34, 8);
        gives(6765, 4181, 2, 2, 1, 1);
        gives(6765, 4181, 17, 2584, 1597, 16);
        gives(6765, 4181, 18, 6765, 4181, 18);
        // One that is the only term stays.
        gives(3, 2, 1, 1, 1, 1);
        GosperFractions x = Due.with(13, 11);
        Due.is("cut(0, 0, 2)", x.cut(0, 0, 2), 2);
        Due.holds("cut(0, 0, 2)", x, 0, 6, 5);
    }

    private static void gives(int p, int q, int count, int top, int bottom, int terms) {
        GosperFractions x = Due.with(3, 5, p, q, 3, 5, 3, 5);
        String call = "cut(3, 1, " + count + ") of " + p + " / " + q;
        Due.is(call, x.cut(3, 1, count), terms);
        Due.holds(call, x, 3, top, bottom);
        Due.is(call + ": terms(3)", x.terms(3), terms);
        Due.holds(call, x, 1, p, q);
        Due.holds(call, x, 0, 3, 5);
        Due.holds(call, x, 2, 3, 5);
    }

    private static void wrongInputs() {
        GosperFractions x = Due.with(13, 11, 3, 5, 3, 5, 3, 5);
        for (int r : Due.WRONG_REGISTERS) {
            Due.is("cut(" + r + ", 0, 1)", x.cut(r, 0, 1), GosperFractions.BAD);
            Due.is("cut(1, " + r + ", 1)", x.cut(1, r, 1), GosperFractions.BAD);
        }
        for (int count : new int[] {0, -1, Integer.MIN_VALUE}) {
            Due.is("cut(1, 0, " + count + ")", x.cut(1, 0, count), GosperFractions.BAD);
        }
        Due.holds("wrong cuts", x, 0, 13, 11);
        for (int r = 1; r < 4; r++) {
            Due.holds("wrong cuts", x, r, 3, 5);
        }
    }
}
