/**
 * "The fraction with the smallest denominator, of those the one with the smallest value, that is at least the smaller
 * and at most the greater one of the values of a and b"
 */
public final class Edge10BetweenEndsTest {
    public static void main(String[] args) {
        atLeastTheSmaller();
        atMostTheGreater();
        sameValues();
        smallestValueOfThose();
        leastAndGreatest();
        everySmallPair();
        Due.end();
    }

    /** The lower end belongs to it, and what lies just below it does not. */
    private static void atLeastTheSmaller() {
        gives(2, 1, 5, 2, 2, 1);
        gives(9999, 4999, 5, 2, 5, 2);
        gives(9997, 4999, 5, 2, 2, 1);
        gives(-2, 1, -3, 2, -2, 1);
        gives(-9997, 4999, -3, 2, -3, 2);
        gives(-9999, 4999, -3, 2, -2, 1);
        gives(0, 1, 1, 2, 0, 1);
        gives(1, 9999, 1, 2, 1, 2);
        gives(-1, 9999, 1, 2, 0, 1);
        gives(1, 3, 2, 5, 1, 3);
        gives(3333, 9998, 2, 5, 2, 5);
        gives(3332, 9997, 2, 5, 1, 3);
    }

    /** The greater end belongs to it, and what lies just above it does not. */
    private static void atMostTheGreater() {
        gives(3, 2, 2, 1, 2, 1);
        gives(3, 2, 9997, 4999, 3, 2);
        gives(3, 2, 9999, 4999, 2, 1);
        gives(-5, 2, -2, 1, -2, 1);
        gives(-5, 2, -9999, 4999, -5, 2);
        gives(-5, 2, -9997, 4999, -2, 1);
        gives(-1, 2, 0, 1, 0, 1);
        gives(-1, 2, -1, 9999, -1, 2);
        gives(-1, 2, 1, 9999, 0, 1);
        gives(2, 7, 1, 3, 1, 3);
        gives(2, 7, 3332, 9997, 2, 7);
        gives(2, 7, 3333, 9998, 1, 3);
    }

    private static void sameValues() {
        gives(5, 7, 5, 7, 5, 7);
        gives(0, 1, 0, 1, 0, 1);
        gives(9999, 1, 9999, 1, 9999, 1);
        gives(-9999, 1, -9999, 1, -9999, 1);
        gives(1, 9999, 1, 9999, 1, 9999);
        gives(-1, 9999, -1, 9999, -1, 9999);
        gives(9999, 9998, 9999, 9998, 9999, 9998);
        gives(-9998, 9999, -9998, 9999, -9998, 9999);
    }

    /** Only whole numbers can be several: of two neighbours n / q and (n + 1) / q, some c / (q - 1) lies between. */
    private static void smallestValueOfThose() {
        gives(13, 11, -22, 7, -3, 1);
        gives(-7, 2, -1, 2, -3, 1);
        gives(1, 2, 9, 2, 1, 1);
        gives(-5, 1, 5, 1, -5, 1);
        gives(-1, 1, 0, 1, -1, 1);
        gives(0, 1, 1, 1, 0, 1);
        gives(1, 3, 2, 3, 1, 2);
        gives(-2, 3, -1, 3, -1, 2);
        gives(3, 10, 7, 10, 1, 2);
    }

    private static void leastAndGreatest() {
        gives(-9999, 1, 9999, 1, -9999, 1);
        gives(-9999, 2, 9999, 2, -4999, 1);
        gives(9998, 1, 9999, 1, 9998, 1);
        gives(-9999, 1, -9998, 1, -9999, 1);
        gives(9997, 2, 9999, 2, 4999, 1);
        gives(-9999, 2, -9997, 2, -4999, 1);
        gives(9999, 9998, 9998, 9997, 9998, 9997);
        gives(-9999, 9998, -9998, 9997, -9998, 9997);
        gives(9997, 9998, 9998, 9999, 9997, 9998);
        gives(-9997, 9998, -9998, 9999, -9997, 9998);
        gives(1, 9999, 1, 9998, 1, 9998);
        gives(-1, 9999, -1, 9998, -1, 9998);
        gives(1, 9999, 9998, 9999, 1, 2);
        gives(-1, 9999, 1, 9999, 0, 1);
        gives(6765, 4181, 2584, 1597, 2584, 1597);
        gives(6765, 4181, 4181, 2584, 4181, 2584);
    }

    /** In both orders, into a register of its own and into those of the ends. */
    private static void gives(int p, int q, int s, int t, int top, int bottom) {
        for (int d = 0; d < 4; d++) {
            into(d, 0, 1, p, q, s, t, top, bottom);
            into(d, 1, 0, p, q, s, t, top, bottom);
        }
    }

    private static void into(int d, int a, int b, int p, int q, int s, int t, int top, int bottom) {
        GosperFractions x = Due.with(p, q, s, t, 3, 5, 4, 5);
        String call = "between(" + d + ", " + a + ", " + b + ") of " + p + " / " + q + " and " + s + " / " + t;
        Due.changesOnly(d, top, bottom, call, x, () -> x.between(d, a, b), bottom);
    }

    private static void everySmallPair() {
        for (int q = 1; q <= 11; q++) {
            for (int p = -2 * q; p <= 2 * q; p++) {
                for (int t = 1; t <= 11; t++) {
                    for (int s = -2 * t; s <= 2 * t; s++) {
                        firstFound(p, q, s, t);
                    }
                }
            }
        }
    }

    /** Of all fractions by rising denominator and then by rising value, the first that lies between the two. */
    private static void firstFound(int p, int q, int s, int t) {
        boolean rising = p * t <= s * q;
        for (int bottom = 1; bottom <= 11; bottom++) {
            for (int top = -2 * bottom; top <= 2 * bottom; top++) {
                boolean notBelow = rising ? top * q >= p * bottom : top * t >= s * bottom;
                boolean notAbove = rising ? top * t <= s * bottom : top * q <= p * bottom;
                if (notBelow && notAbove) {
                    GosperFractions x = Due.with(p, q, s, t);
                    String call = "between(2, 0, 1) of " + p + " / " + q + " and " + s + " / " + t;
                    Due.is(call, x.between(2, 0, 1), bottom);
                    Due.holds(call, x, 2, top, bottom);
                    return;
                }
            }
        }
    }
}
