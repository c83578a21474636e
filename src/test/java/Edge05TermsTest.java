/** "The number of terms of the chain of a register; BAD for r outside 0..3." */
public final class Edge05TermsTest {
    public static void main(String[] args) {
        GosperFractions x = Due.with(-9999, 1, 1, 9999, -1, 9999, 4181, 6765);
        // The fewest terms a chain can have, and, in register 3, the most.
        Due.is("terms(0)", x.terms(0), 1);
        Due.is("terms(1)", x.terms(1), 2);
        Due.is("terms(2)", x.terms(2), 3);
        Due.is("terms(3)", x.terms(3), 19);
        for (int r : Due.WRONG_REGISTERS) {
            Due.changesNothing("terms(" + r + ")", x, () -> x.terms(r), GosperFractions.BAD);
        }
        Due.end();
    }
}
