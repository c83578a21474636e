public final class Promise04BottomTest {
    public static void main(String[] args) {
        GosperFractions x = Due.with(13, 11, -22, 7, 9998, 9999, -9999, 1);
        Due.is("bottom(0)", x.bottom(0), 11);
        Due.is("bottom(1)", x.bottom(1), 7);
        Due.is("bottom(2)", x.bottom(2), 9999);
        Due.is("bottom(3)", x.bottom(3), 1);
        for (int r : Due.WRONG_REGISTERS) {
            Due.is("bottom(" + r + ")", x.bottom(r), GosperFractions.BAD);
        }
        Due.end();
    }
}
