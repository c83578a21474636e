/** "d or a outside 0..3 or count below 1: BAD." */
public final class Edge11CutBadTest {
    private static final int[] WRONG_COUNTS = {0, -1, -2, -65535, Integer.MIN_VALUE, Integer.MIN_VALUE + 1};

    public static void main(String[] args) {
        lastInside();
        registerOutside();
        countOutside();
        Due.end();
    }

    private static void lastInside() {
        for (int d = 0; d < 4; d++) {
            for (int a = 0; a < 4; a++) {
                firstTerm(d, a);
            }
        }
    }

    private static void firstTerm(int d, int a) {
        GosperFractions x = Due.with(1, 2, 3, 2, 5, 2, 7, 2);
        Due.changesOnly(d, a, 1, "cut(" + d + ", " + a + ", 1)", x, () -> x.cut(d, a, 1), 1);
    }

    private static void registerOutside() {
        for (int wrong : Due.WRONG_REGISTERS) {
            for (int count : new int[] {1, 2, Integer.MAX_VALUE, 0, Integer.MIN_VALUE}) {
                for (int r = 0; r < 4; r++) {
                    refused(wrong, r, count);
                    refused(r, wrong, count);
                }
                for (int other : Due.WRONG_REGISTERS) {
                    refused(wrong, other, count);
                }
            }
        }
    }

    private static void countOutside() {
        for (int count : WRONG_COUNTS) {
            for (int d = 0; d < 4; d++) {
                for (int a = 0; a < 4; a++) {
                    refused(d, a, count);
                }
            }
        }
    }

    private static void refused(int d, int a, int count) {
        GosperFractions x = Due.filled();
        Due.changesNothing("cut(" + d + ", " + a + ", " + count + ")", x, () -> x.cut(d, a, count), GosperFractions.BAD);
    }
}
