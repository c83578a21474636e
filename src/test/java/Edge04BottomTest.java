/** "The denominator of a register; BAD for r outside 0..3." */
public final class Edge04BottomTest {
    public static void main(String[] args) {
        GosperFractions x = Due.with(1, 9999, -9999, 1, -9999, 9998, 0, 9999);
        Due.is("bottom(0)", x.bottom(0), 9999);
        Due.is("bottom(1)", x.bottom(1), 1);
        Due.is("bottom(2)", x.bottom(2), 9998);
        Due.is("bottom(3)", x.bottom(3), 1);
        for (int r : Due.WRONG_REGISTERS) {
            Due.changesNothing("bottom(" + r + ")", x, () -> x.bottom(r), GosperFractions.BAD);
        }
        Due.end();
    }
}
