/** "BAD for r outside 0..3; NONE if there is no term i." */
public final class Edge06TermTest {
    private static final int[] NO_TERMS = {-1, -2, 256, 65536, Integer.MIN_VALUE, Integer.MIN_VALUE + 1, Integer.MAX_VALUE};

    public static void main(String[] args) {
        ends(0, 1, 1, 0, 0);
        ends(-9999, 1, 1, -9999, -9999);
        ends(9999, 1, 1, 9999, 9999);
        ends(1, 9999, 2, 0, 9999);
        ends(-1, 9999, 3, -1, 9998);
        ends(13, 11, 3, 1, 2);
        ends(6765, 4181, 18, 1, 2);
        ends(4181, 6765, 19, 0, 2);
        registerOutside();
        Due.end();
    }

    /** In every register: the first and the last term, and none before and behind them. */
    private static void ends(int p, int q, int length, int first, int last) {
        for (int r = 0; r < 4; r++) {
            GosperFractions x = new GosperFractions();
            x.set(r, p, q);
            String of = ") of " + p + " / " + q;
            Due.is("term(" + r + ", 0" + of, x.term(r, 0), first);
            Due.is("term(" + r + ", " + (length - 1) + of, x.term(r, length - 1), last);
            refused(x, r, length, GosperFractions.NONE);
            refused(x, r, length + 1, GosperFractions.NONE);
            for (int i : NO_TERMS) {
                refused(x, r, i, GosperFractions.NONE);
            }
        }
    }

    /** A bad register is told whether the term would be there or not. */
    private static void registerOutside() {
        for (int r : Due.WRONG_REGISTERS) {
            GosperFractions x = Due.filled();
            refused(x, r, 0, GosperFractions.BAD);
            refused(x, r, 1, GosperFractions.BAD);
            refused(x, r, 3, GosperFractions.BAD);
            for (int i : NO_TERMS) {
                refused(x, r, i, GosperFractions.BAD);
            }
        }
    }

    private static void refused(GosperFractions x, int r, int i, int why) {
        Due.changesNothing("term(" + r + ", " + i + ")", x, () -> x.term(r, i), why);
    }
}
