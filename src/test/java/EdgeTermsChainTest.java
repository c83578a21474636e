/** "the first one any whole number, all others above 0, the last one above 1 if there is more than one term" */
public final class EdgeTermsChainTest {
    public static void main(String[] args) {
        firstTermAnyWholeNumber();
        othersAboveZero();
        lastAboveOne();
        everySmallFraction();
        fractionsAtTheEdges();
        Due.end();
    }

    private static void firstTermAnyWholeNumber() {
        for (int whole = -9999; whole <= 9999; whole++) {
            chain(whole, 1, whole);
        }
        // The least and the greatest first terms that have others behind them.
        chain(-9999, 2, -5000, 2);
        chain(9999, 2, 4999, 2);
        chain(1, 9999, 0, 9999);
        chain(-1, 9999, -1, 1, 9998);
    }

    private static void othersAboveZero() {
        chain(-1, 3, -1, 1, 2);
        chain(-9999, 9998, -2, 1, 9997);
        chain(9998, 9999, 0, 1, 9998);
        chain(-9998, 9999, -1, 9999);
        chain(4181, 6765, 0, 1, 1, 1, 1, 1, 1, 1, 1, 1, 1, 1, 1, 1, 1, 1, 1, 1, 2);
        chain(-2584, 6765, -1, 1, 1, 1, 1, 1, 1, 1, 1, 1, 1, 1, 1, 1, 1, 1, 1, 1, 2);
    }

    private static void lastAboveOne() {
        chain(1, 2, 0, 2);
        chain(-1, 2, -1, 2);
        chain(3, 2, 1, 2);
        chain(2, 3, 0, 1, 2);
        // The only term may be 1, 0 or less.
        chain(1, 1, 1);
        chain(0, 1, 0);
        chain(-1, 1, -1);
        // So may one that comes from a cut or a sum.
        GosperFractions x = Due.with(-22, 7, 1, 2, 1, 2);
        x.cut(3, 0, 2);
        Due.chain("cut(3, 0, 2) of -22 / 7", x, 3, -3);
        x.apply(GosperFractions.ADD, 3, 1, 2);
        Due.chain("1 / 2 + 1 / 2", x, 3, 1);
        x.apply(GosperFractions.SUB, 3, 1, 2);
        Due.chain("1 / 2 - 1 / 2", x, 3, 0);
    }

    private static void chain(int p, int q, int... terms) {
        Due.chain(p + " / " + q, Due.with(1, 1, p, q), 1, terms);
    }

    private static void everySmallFraction() {
        for (int p = -100; p <= 100; p++) {
            for (int q = 1; q <= 60; q++) {
                shape(p, q);
            }
        }
    }

    private static void fractionsAtTheEdges() {
        for (int part = 1; part <= 9999; part++) {
            shape(9999, part);
            shape(-9999, part);
            shape(part, 9999);
            shape(-part, 9999);
        }
    }

    /** Each term is as the sentence says, and the chain's value is p / q. */
    private static void shape(int p, int q) {
        GosperFractions x = Due.with(p, q);
        String of = " of " + p + " / " + q;
        int last = x.terms(0) - 1;
        Due.is("last term" + of + " above 1", last == 0 || x.term(0, last) > 1, true);
        long top = x.term(0, last);
        long bottom = 1;
        for (int i = last - 1; i >= 0; i--) {
            Due.is("term " + (i + 1) + of + " above 0", x.term(0, i + 1) > 0, true);
            long next = x.term(0, i) * top + bottom;
            bottom = top;
            top = next;
        }
        Due.is("value of the chain" + of + ", crosswise", top * q, bottom * p);
        Due.is("no term behind the last" + of, x.term(0, last + 1), GosperFractions.NONE);
    }
}
