/** "BAD for a number outside 0..3. Else answers its denominator." */
public final class Edge10BetweenBadTest {
    public static void main(String[] args) {
        lastInside();
        numberOutside();
        Due.end();
    }

    private static void lastInside() {
        for (int d = 0; d < 4; d++) {
            for (int a = 0; a < 4; a++) {
                for (int b = 0; b < 4; b++) {
                    gives(d, a, b);
                }
            }
        }
    }

    /** Any two of these have a whole number between them, and each is alone with itself. */
    private static void gives(int d, int a, int b) {
        GosperFractions x = Due.with(2, 3, 5, 3, 8, 3, 11, 3);
        String call = "between(" + d + ", " + a + ", " + b + ")";
        int top = a == b ? 3 * a + 2 : Math.min(a, b) + 1;
        int bottom = a == b ? 3 : 1;
        Due.changesOnly(d, top, bottom, call, x, () -> x.between(d, a, b), bottom);
    }

    private static void numberOutside() {
        for (int wrong : Due.WRONG_REGISTERS) {
            for (int r = 0; r < 4; r++) {
                refused(wrong, r, 0);
                refused(wrong, 3, r);
                refused(r, wrong, 0);
                refused(3, wrong, r);
                refused(r, 0, wrong);
                refused(3, r, wrong);
            }
            for (int other : Due.WRONG_REGISTERS) {
                refused(wrong, other, 0);
                refused(wrong, 0, other);
                refused(0, wrong, other);
                refused(wrong, other, wrong);
            }
        }
    }

    private static void refused(int d, int a, int b) {
        GosperFractions x = Due.filled();
        Due.changesNothing("between(" + d + ", " + a + ", " + b + ")", x, () -> x.between(d, a, b), GosperFractions.BAD);
    }
}
