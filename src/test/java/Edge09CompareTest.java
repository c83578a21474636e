/** "-1, 0 or 1 as the value of register a is less than, equal to or greater than that of b; BAD for a number outside 0..3." */
public final class Edge09CompareTest {
    public static void main(String[] args) {
        lastInside();
        nextToEachOther();
        numberOutside();
        Due.end();
    }

    private static void lastInside() {
        for (int a = 0; a < 4; a++) {
            for (int b = 0; b < 4; b++) {
                GosperFractions x = Due.with(-9999, 1, -1, 9999, 1, 9999, 9999, 1);
                Due.is("compare(" + a + ", " + b + ")", x.compare(a, b), Integer.compare(a, b));
            }
        }
    }

    /** As near to each other as two fractions can be, the least and the greatest ones among them. */
    private static void nextToEachOther() {
        rising(9999, 9998, 9998, 9997);
        rising(-9998, 9997, -9999, 9998);
        rising(9997, 9998, 9998, 9999);
        rising(-9998, 9999, -9997, 9998);
        rising(1, 9999, 1, 9998);
        rising(-1, 9998, -1, 9999);
        rising(9998, 1, 9999, 1);
        rising(-9999, 1, -9998, 1);
        rising(0, 1, 1, 9999);
        rising(-1, 9999, 0, 1);
        rising(-9999, 1, 9999, 1);
    }

    /** p / q is less than s / t; a comparison changes nothing. */
    private static void rising(int p, int q, int s, int t) {
        GosperFractions x = Due.with(p, q, s, t, s, t);
        String of = " of " + p + " / " + q + " and " + s + " / " + t;
        Due.changesNothing("compare(0, 1)" + of, x, () -> x.compare(0, 1), -1);
        Due.changesNothing("compare(1, 0)" + of, x, () -> x.compare(1, 0), 1);
        Due.changesNothing("compare(1, 2)" + of, x, () -> x.compare(1, 2), 0);
        Due.changesNothing("compare(0, 0)" + of, x, () -> x.compare(0, 0), 0);
    }

    private static void numberOutside() {
        for (int wrong : Due.WRONG_REGISTERS) {
            GosperFractions x = Due.filled();
            for (int r = 0; r < 4; r++) {
                refused(x, wrong, r);
                refused(x, r, wrong);
            }
            for (int other : Due.WRONG_REGISTERS) {
                refused(x, wrong, other);
            }
        }
    }

    private static void refused(GosperFractions x, int a, int b) {
        Due.changesNothing("compare(" + a + ", " + b + ")", x, () -> x.compare(a, b), GosperFractions.BAD);
    }
}
