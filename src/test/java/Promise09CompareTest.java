public final class Promise09CompareTest {
    public static void main(String[] args) {
        inOrder(-9999, 1, -9998, 1);
        inOrder(-22, 7, 13, 11);
        inOrder(-1, 2, -1, 3);
        inOrder(-1, 9999, 0, 1);
        inOrder(0, 1, 1, 9999);
        inOrder(1, 3, 1, 2);
        inOrder(9999, 9998, 9998, 9997);
        inOrder(-9998, 9997, -9999, 9998);
        inOrder(9998, 1, 9999, 1);
        inOrder(-9999, 1, 9999, 1);
        inOrder(3, 2, 2, 1);
        GosperFractions equal = Due.with(-4, 6, -2, 3);
        Due.is("compare(0, 1) of equals", equal.compare(0, 1), 0);
        Due.is("compare(1, 0) of equals", equal.compare(1, 0), 0);
        Due.is("compare(0, 0)", equal.compare(0, 0), 0);
        Due.is("compare(2, 3) of zeros", equal.compare(2, 3), 0);
        for (int r : Due.WRONG_REGISTERS) {
            Due.is("compare(" + r + ", 0)", equal.compare(r, 0), GosperFractions.BAD);
            Due.is("compare(0, " + r + ")", equal.compare(0, r), GosperFractions.BAD);
            Due.is("compare(" + r + ", " + r + ")", equal.compare(r, r), GosperFractions.BAD);
        }
        Due.end();
    }

    /** p / q is less than s / t. */
    private static void inOrder(int p, int q, int s, int t) {
        GosperFractions x = Due.with(3, 5, p, q, 3, 5, s, t);
        String fractions = " of " + p + " / " + q + " and " + s + " / " + t;
        Due.is("compare(1, 3)" + fractions, x.compare(1, 3), -1);
        Due.is("compare(3, 1)" + fractions, x.compare(3, 1), 1);
        Due.holds("compare", x, 1, p, q);
        Due.holds("compare", x, 3, s, t);
    }
}
