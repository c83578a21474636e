/** "The numerator of a register; BAD for r outside 0..3." */
public final class Edge03TopTest {
    public static void main(String[] args) {
        GosperFractions x = Due.with(-9999, 1, 9999, 1, 1, 9999, -1, 9999);
        Due.is("top(0)", x.top(0), -9999);
        Due.is("top(1)", x.top(1), 9999);
        Due.is("top(2)", x.top(2), 1);
        Due.is("top(3)", x.top(3), -1);
        for (int r : Due.WRONG_REGISTERS) {
            Due.changesNothing("top(" + r + ")", x, () -> x.top(r), GosperFractions.BAD);
        }
        Due.end();
    }
}
