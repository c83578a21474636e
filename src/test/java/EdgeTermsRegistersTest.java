/**
 * "There are 4 REGISTERS, 0 to 3, each of which holds a fraction p / q with p from -9999 to 9999 and q from 1 to 9999
 * in lowest terms."
 */
public final class EdgeTermsRegistersTest {
    private static final int[] EDGE_TOPS = {-10000, -9999, -9998, -1, 0, 1, 9998, 9999, 10000, Integer.MIN_VALUE, Integer.MAX_VALUE};
    private static final int[] EDGE_BOTTOMS = {-1, 0, 1, 2, 9998, 9999, 10000, Integer.MIN_VALUE, Integer.MAX_VALUE};

    public static void main(String[] args) {
        fourRegisters();
        everyPartAtEveryEdge();
        everySmallFraction();
        resultsInLowestTerms();
        resultsInRange();
        Due.end();
    }

    private static void fourRegisters() {
        GosperFractions x = Due.with(1, 2, 3, 4, 5, 6, 7, 8);
        Due.holds("four sets", x, 0, 1, 2);
        Due.holds("four sets", x, 1, 3, 4);
        Due.holds("four sets", x, 2, 5, 6);
        Due.holds("four sets", x, 3, 7, 8);
        for (int r : Due.WRONG_REGISTERS) {
            Due.is("set(" + r + ", 1, 9)", x.set(r, 1, 9), false);
            Due.is("top(" + r + ")", x.top(r), GosperFractions.BAD);
            Due.is("bottom(" + r + ")", x.bottom(r), GosperFractions.BAD);
        }
    }

    private static void everyPartAtEveryEdge() {
        for (int p : EDGE_TOPS) {
            for (int q = -2; q <= 10001; q++) {
                held(p, q);
            }
        }
        for (int q : EDGE_BOTTOMS) {
            for (int p = -10001; p <= 10001; p++) {
                held(p, q);
            }
        }
    }

    private static void everySmallFraction() {
        for (int p = -60; p <= 60; p++) {
            for (int q = 1; q <= 60; q++) {
                held(p, q);
            }
        }
    }

    /** A new object's register 3 takes p / q just if both are in range, and holds it in lowest terms. */
    private static void held(int p, int q) {
        GosperFractions x = new GosperFractions();
        boolean inRange = p >= -9999 && p <= 9999 && q >= 1 && q <= 9999;
        String call = "set(3, " + p + ", " + q + ")";
        Due.is(call, x.set(3, p, q), inRange);
        int divisor = inRange ? commonDivisor(p, q) : 1;
        Due.holds(call, x, 3, inRange ? p / divisor : 0, inRange ? q / divisor : 1);
    }

    private static int commonDivisor(int p, int q) {
        int a = Math.abs(p);
        int b = q;
        while (a != 0) {
            int rest = b % a;
            b = a;
            a = rest;
        }
        return b;
    }

    /** The denominator is above 0 and shares no divisor with the numerator, whatever call put the fraction there. */
    private static void resultsInLowestTerms() {
        for (int p = -12; p <= 12; p++) {
            for (int q = 1; q <= 12; q++) {
                GosperFractions x = Due.with(p, q, -6, 4);
                String of = " of " + p + " / " + q + " and -6 / 4";
                for (int op = 0; op < 4; op++) {
                    x.apply(op, 2, 0, 1);
                    lowest("apply(" + op + ", 2, 0, 1)" + of, x);
                    x.apply(op, 2, 1, 0);
                    lowest("apply(" + op + ", 2, 1, 0)" + of, x);
                }
                x.transform(2, 0, 6004002008L);
                lowest("transform(2, 0, 6004002008)" + of, x);
                x.transform(2, 0, 99033066011L);
                lowest("transform(2, 0, 99033066011)" + of, x);
                x.between(2, 0, 1);
                lowest("between(2, 0, 1)" + of, x);
                x.cut(2, 0, 2);
                lowest("cut(2, 0, 2)" + of, x);
            }
        }
    }

    private static void lowest(String call, GosperFractions x) {
        int q = x.bottom(2);
        Due.is(call + ": bottom above 0", q > 0, true);
        Due.is(call + ": common divisor of " + x.top(2) + " and " + q, commonDivisor(x.top(2), q), 1);
    }

    /** The last part inside is kept as a result too, and the first one outside is not. */
    private static void resultsInRange() {
        result(9998, 1, 1, 1, 9999, 1);
        result(9999, 1, 1, 1, 3, 5);
        result(-9998, 1, -1, 1, -9999, 1);
        result(-9999, 1, -1, 1, 3, 5);
        result(1, 99, 1, 101, 200, 9999);
        result(1, 16, 1, 625, 3, 5);
        result(-1, 99, -1, 101, -200, 9999);
        result(-1, 16, -1, 625, 3, 5);
    }

    /** Register 2, 3 / 5 at first, holds this after register 0 and register 1 are added into it. */
    private static void result(int p, int q, int s, int t, int top, int bottom) {
        GosperFractions x = Due.with(p, q, s, t, 3, 5);
        x.apply(GosperFractions.ADD, 2, 0, 1);
        Due.holds(p + " / " + q + " plus " + s + " / " + t, x, 2, top, bottom);
    }
}
