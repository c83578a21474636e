public final class Promise06TermTest {
    public static void main(String[] args) {
        chain(0, 1, 0);
        chain(5, 1, 5);
        chain(-5, 1, -5);
        chain(1, 2, 0, 2);
        chain(-1, 2, -1, 2);
        chain(-1, 3, -1, 1, 2);
        chain(13, 11, 1, 5, 2);
        chain(-22, 7, -4, 1, 6);
        chain(355, 113, 3, 7, 16);
        chain(649, 200, 3, 4, 12, 4);
        chain(9999, 1, 9999);
        chain(-9999, 1, -9999);
        chain(1, 9999, 0, 9999);
        chain(-1, 9999, -1, 1, 9998);
        chain(-9999, 9998, -2, 1, 9997);
        chain(4181, 6765, 0, 1, 1, 1, 1, 1, 1, 1, 1, 1, 1, 1, 1, 1, 1, 1, 1, 1, 2);
        Due.end();
    }

    private static void chain(int p, int q, int... terms) {
        Due.chain(p + " / " + q, Due.with(1, 1, 1, 1, 1, 1, p, q), 3, terms);
    }
}
