/**
 * "Tested in this order: op outside 0..3 or a register number outside 0..3: BAD; op is DIV and register b is 0: NONE;
 * the result, in lowest terms, does not fit into a register: TOO_BIG; in these cases nothing changes."
 */
public final class Edge07ApplyTest {
    private static final int ADD = GosperFractions.ADD;
    private static final int SUB = GosperFractions.SUB;
    private static final int MUL = GosperFractions.MUL;
    private static final int DIV = GosperFractions.DIV;
    private static final int BAD = GosperFractions.BAD;
    private static final int NONE = GosperFractions.NONE;
    private static final int TOO_BIG = GosperFractions.TOO_BIG;
    private static final int[] WRONG_OPS = Due.WRONG_REGISTERS;

    public static void main(String[] args) {
        lastOpsAndRegistersInside();
        opOutside();
        registerOutside();
        badBeforeNoneBeforeTooBig();
        divisionByZero();
        topAtTheEdge();
        bottomAtTheEdge();
        fitsInLowestTermsOnly();
        greatestOnTheWay();
        Due.end();
    }

    private static void lastOpsAndRegistersInside() {
        for (int d = 0; d < 4; d++) {
            for (int a = 0; a < 4; a++) {
                for (int b = 0; b < 4; b++) {
                    sum(d, a, b);
                }
            }
        }
        taken(0, 1, 2, 1, 3, 5, 6, 3);
        taken(3, 1, 2, 1, 3, 3, 2, 2);
    }

    private static void sum(int d, int a, int b) {
        GosperFractions x = Due.with(1, 2, 3, 2, 5, 2, 7, 2);
        Due.changesOnly(d, a + b + 1, 1, "apply(ADD, " + d + ", " + a + ", " + b + ")", x, () -> x.apply(ADD, d, a, b), 1);
    }

    private static void opOutside() {
        for (int op : WRONG_OPS) {
            refused(op, 2, 0, 1, BAD, 1, 2, 1, 3, 3, 5, 4, 5);
            refused(op, 3, 3, 3, BAD, 1, 2, 1, 3, 3, 5, 4, 5);
        }
    }

    private static void registerOutside() {
        for (int op = ADD; op <= DIV; op++) {
            for (int r : Due.WRONG_REGISTERS) {
                refused(op, r, 0, 1, BAD, 1, 2, 1, 3, 3, 5, 4, 5);
                refused(op, 2, r, 1, BAD, 1, 2, 1, 3, 3, 5, 4, 5);
                refused(op, 2, 0, r, BAD, 1, 2, 1, 3, 3, 5, 4, 5);
                refused(op, r, r, r, BAD, 1, 2, 1, 3, 3, 5, 4, 5);
            }
        }
    }

    private static void badBeforeNoneBeforeTooBig() {
        for (int wrong : WRONG_OPS) {
            // Register 1 is 0, which a division would tell.
            refused(DIV, wrong, 0, 1, BAD, 9999, 1, 0, 1, 3, 5, 4, 5);
            refused(DIV, 2, wrong, 1, BAD, 9999, 1, 0, 1, 3, 5, 4, 5);
            refused(wrong, 2, 0, 1, BAD, 9999, 1, 0, 1, 3, 5, 4, 5);
            // The result would not fit.
            refused(MUL, wrong, 0, 0, BAD, 9999, 1, 0, 1, 3, 5, 4, 5);
            refused(wrong, 2, 0, 0, BAD, 9999, 1, 0, 1, 3, 5, 4, 5);
            refused(wrong, wrong, wrong, wrong, BAD, 9999, 1, 0, 1, 3, 5, 4, 5);
        }
        // No result of a division by 0 would fit.
        refused(DIV, 2, 0, 1, NONE, 9999, 1, 0, 1, 3, 5, 4, 5);
        refused(DIV, 2, 0, 1, NONE, -9999, 1, 0, 1, 3, 5, 4, 5);
    }

    private static void divisionByZero() {
        for (int b = 0; b < 4; b++) {
            for (int d = 0; d < 4; d++) {
                int[] parts = {1, 2, -1, 3, 3, 5, 4, 5};
                parts[2 * b] = 0;
                parts[2 * b + 1] = 1;
                for (int a = 0; a < 4; a++) {
                    refused(DIV, d, a, b, NONE, parts);
                }
            }
        }
        // The other operations take a 0 in register b, and a division takes it in register a.
        taken(ADD, 5, 7, 0, 1, 5, 7, 4);
        taken(SUB, 5, 7, 0, 1, 5, 7, 4);
        taken(MUL, 5, 7, 0, 1, 0, 1, 1);
        taken(DIV, 0, 1, 5, 7, 0, 1, 1);
        taken(DIV, 0, 1, -9999, 1, 0, 1, 1);
        // The divisors next to 0.
        taken(DIV, 1, 1, 1, 9999, 9999, 1, 1);
        taken(DIV, 1, 1, -1, 9999, -9999, 1, 1);
        taken(DIV, 1, 9999, 1, 9999, 1, 1, 1);
        refused(DIV, 2, 0, 1, TOO_BIG, 2, 1, 1, 9999, 3, 5, 4, 5);
        refused(DIV, 2, 0, 1, TOO_BIG, 2, 1, -1, 9999, 3, 5, 4, 5);
    }

    private static void topAtTheEdge() {
        taken(ADD, 9998, 1, 1, 1, 9999, 1, 1);
        tooBig(ADD, 9999, 1, 1, 1);
        taken(ADD, -9998, 1, -1, 1, -9999, 1, 1);
        tooBig(ADD, -9999, 1, -1, 1);
        taken(ADD, 9997, 2, 1, 1, 9999, 2, 2);
        tooBig(ADD, 9999, 2, 1, 1);
        tooBig(ADD, 9997, 3, 1, 1);
        taken(SUB, 9998, 1, -1, 1, 9999, 1, 1);
        tooBig(SUB, 9999, 1, -1, 1);
        taken(SUB, -9998, 1, 1, 1, -9999, 1, 1);
        tooBig(SUB, -9999, 1, 1, 1);
        taken(MUL, 99, 1, 101, 1, 9999, 1, 1);
        tooBig(MUL, 100, 1, 100, 1);
        taken(MUL, -99, 1, 101, 1, -9999, 1, 1);
        tooBig(MUL, 100, 1, -100, 1);
        taken(MUL, 9999, 2, 1, 1, 9999, 2, 2);
        tooBig(MUL, 5000, 3, 2, 1);
        taken(DIV, 99, 1, 1, 101, 9999, 1, 1);
        tooBig(DIV, 100, 1, 1, 100);
        taken(DIV, 99, 1, -1, 101, -9999, 1, 1);
        tooBig(DIV, 100, 1, -1, 100);
        taken(DIV, -99, 1, -1, 101, 9999, 1, 1);
        tooBig(DIV, -100, 1, -1, 100);
    }

    private static void bottomAtTheEdge() {
        taken(ADD, 1, 99, 1, 101, 200, 9999, 4);
        tooBig(ADD, 1, 16, 1, 625);
        taken(SUB, 1, 99, 1, 101, 2, 9999, 3);
        tooBig(SUB, 1, 16, 1, 625);
        taken(SUB, 1, 101, 1, 99, -2, 9999, 4);
        tooBig(SUB, 1, 625, 1, 16);
        taken(MUL, 1, 99, 1, 101, 1, 9999, 2);
        tooBig(MUL, 1, 100, 1, 100);
        taken(MUL, -1, 99, 1, 101, -1, 9999, 3);
        tooBig(MUL, -1, 100, 1, 100);
        taken(DIV, 1, 99, 101, 1, 1, 9999, 2);
        tooBig(DIV, 1, 100, 100, 1);
        taken(DIV, 1, 99, -101, 1, -1, 9999, 3);
        tooBig(DIV, 1, 100, -100, 1);
    }

    private static void fitsInLowestTermsOnly() {
        taken(ADD, 1, 9999, 9998, 9999, 1, 1, 1);
        taken(ADD, 9999, 2, 9999, 2, 9999, 1, 1);
        taken(SUB, 9999, 9998, 1, 9998, 1, 1, 1);
        taken(MUL, 9999, 9998, 9998, 9997, 9999, 9997, 3);
        taken(MUL, 9999, 9998, 9998, 9999, 1, 1, 1);
        taken(DIV, 9999, 9998, 9999, 9998, 1, 1, 1);
        taken(DIV, -9999, 9998, 9999, 9997, -9997, 9998, 2);
    }

    /** The greatest numbers before they are put in lowest terms. */
    private static void greatestOnTheWay() {
        tooBig(MUL, 9999, 1, 9999, 1);
        tooBig(MUL, -9999, 1, 9999, 1);
        tooBig(MUL, 1, 9999, 1, 9999);
        tooBig(DIV, 9999, 1, 1, 9999);
        tooBig(DIV, 1, 9999, 9999, 1);
        tooBig(DIV, 1, 9999, -9999, 1);
        tooBig(ADD, 9999, 1, 9999, 1);
        tooBig(ADD, -9999, 1, -9999, 1);
        tooBig(ADD, 9999, 9998, 9998, 9997);
        tooBig(SUB, -9999, 9998, 9998, 9997);
        tooBig(SUB, 9999, 9998, 9998, 9997);
    }

    private static void taken(int op, int p, int q, int s, int t, int top, int bottom, int terms) {
        GosperFractions x = Due.with(p, q, s, t, 3, 5, 4, 5);
        String call = "apply(" + op + ", 2, 0, 1) of " + p + " / " + q + " and " + s + " / " + t;
        Due.changesOnly(2, top, bottom, call, x, () -> x.apply(op, 2, 0, 1), terms);
        Due.is(call + ": terms(2)", x.terms(2), terms);
    }

    /** Whether the result would go into another register or into one of the two it comes from. */
    private static void tooBig(int op, int p, int q, int s, int t) {
        for (int d = 0; d < 4; d++) {
            refused(op, d, 0, 1, TOO_BIG, p, q, s, t, 3, 5, 4, 5);
        }
    }

    private static void refused(int op, int d, int a, int b, int why, int... parts) {
        GosperFractions x = Due.with(parts);
        Due.changesNothing("apply(" + op + ", " + d + ", " + a + ", " + b + ")", x, () -> x.apply(op, d, a, b), why);
    }
}
