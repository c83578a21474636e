public final class Promise09CompareTest {
    public static void main(String[] args) {
        inOrder(-22, 7, 13, 11);
        inOrder(-1, 2, -1, 3);
        inOrder(1, 3, 1, 2);
        inOrder(3, 2, 2, 1);
        inOrder(-1, 1, 1, 1);
        GosperFractions equal = Due.with(-4, 6, -2, 3);
        Due.changesNothing("compare(0, 1) of equals", equal, () -> equal.compare(0, 1), 0);
        Due.changesNothing("compare(1, 0) of equals", equal, () -> equal.compare(1, 0), 0);
        Due.changesNothing("compare(0, 0)", equal, () -> equal.compare(0, 0), 0);
        Due.changesNothing("compare(2, 3) of zeros", equal, () -> equal.compare(2, 3), 0);
        Due.changesNothing("compare(4, 0)", equal, () -> equal.compare(4, 0), GosperFractions.BAD);
        Due.end();
    }

    /** p / q is less than s / t. */
    private static void inOrder(int p, int q, int s, int t) {
        GosperFractions x = Due.with(3, 5, p, q, 3, 5, s, t);
        String fractions = " of " + p + " / " + q + " and " + s + " / " + t;
        Due.changesNothing("compare(1, 3)" + fractions, x, () -> x.compare(1, 3), -1);
        Due.changesNothing("compare(3, 1)" + fractions, x, () -> x.compare(3, 1), 1);
    }
}
