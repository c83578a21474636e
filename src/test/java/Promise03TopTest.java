public final class Promise03TopTest {
    public static void main(String[] args) {
        GosperFractions x = Due.with(13, 11, -22, 7, 9999, 9998, -9999, 1);
        Due.is("top(0)", x.top(0), 13);
        Due.is("top(1)", x.top(1), -22);
        Due.is("top(2)", x.top(2), 9999);
        Due.is("top(3)", x.top(3), -9999);
        for (int r : Due.WRONG_REGISTERS) {
            Due.is("top(" + r + ")", x.top(r), GosperFractions.BAD);
        }
        Due.end();
    }
}
