public final class Promise05TermsTest {
    public static void main(String[] args) {
        count(0, 1, 1);
        count(17, 1, 1);
        count(-17, 1, 1);
        count(1, 2, 2);
        count(-1, 2, 2);
        count(1, 3, 2);
        count(-1, 3, 3);
        count(13, 11, 3);
        count(-22, 7, 3);
        count(9999, 9998, 2);
        count(-9999, 9998, 3);
        count(9999, 1, 1);
        count(-9999, 1, 1);
        count(1, 9999, 2);
        // The longest chains there are: neighbours among Fibonacci's numbers.
        count(6765, 4181, 18);
        count(4181, 6765, 19);
        count(-2584, 6765, 19);
        for (int r : Due.WRONG_REGISTERS) {
            Due.is("terms(" + r + ")", new GosperFractions().terms(r), GosperFractions.BAD);
        }
        Due.end();
    }

    private static void count(int p, int q, int want) {
        Due.is("terms of " + p + " / " + q, Due.with(1, 1, 1, 1, p, q).terms(2), want);
    }
}
