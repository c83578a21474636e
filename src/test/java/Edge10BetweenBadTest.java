/** "BAD for a number outside 0..3. Else answers its denominator." */
public final class Edge10BetweenBadTest {
    public static void main(String[] args) {
        lastInside();
        numberOutside();
        Due.end();
    }

    private static void lastInside() {
        for (int d = 0; d < 4; d++) {
            for (int a = 0; a < 4; a++) {
                for (int b = 0; b < 4; b++) {
                    GosperFractions x = Due.with(2, 3, 5, 3, 8, 3, 11, 3);
                    String call = "between(" + d + ", " + a + ", " + b + ")";
                    // Two of these have a whole number between them, and each is alone with itself.
                    Due.is(call, x.between(d, a, b), a == b ? 3 : 1);
                    int low = Math.min(a, b);
                    for (int r = 0; r < 4; r++) {
                        boolean changed = r == d && a != b;
                        Due.holds(call, x, r, changed ? low + 1 : 3 * (r == d ? a : r) + 2, changed ? 1 : 3);
                    }
                }
            }
        }
    }

    private static void numberOutside() {
        for (int wrong : Due.WRONG_REGISTERS) {
            for (int r = 0; r < 4; r++) {
                refused(wrong, r, 0);
                refused(wrong, 3, r);
                refused(r, wrong, 0);
                refused(3, wrong, r);
                refused(r, 0, wrong);
                refused(3, r, wrong);
            }
            for (int other : Due.WRONG_REGISTERS) {
                refused(wrong, other, 0);
                refused(wrong, 0, other);
                refused(0, wrong, other);
                refused(wrong, other, wrong);
            }
        }
    }

    private static void refused(int d, int a, int b) {
        GosperFractions x = Due.filled();
        Due.refused("between(" + d + ", " + a + ", " + b + ")", x, () -> x.between(d, a, b), GosperFractions.BAD);
    }
}
