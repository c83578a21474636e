public final class Promise07ApplyTest {
    private static final int ADD = GosperFractions.ADD;
    private static final int SUB = GosperFractions.SUB;
    private static final int MUL = GosperFractions.MUL;
    private static final int DIV = GosperFractions.DIV;

    public static void main(String[] args) {
        ordinary();
        edges();
        sameRegisters();
        tooBig();
        wrongInputs();
        Due.end();
    }

    private static void ordinary() {
        gives(ADD, 13, 11, -22, 7, -151, 77, 4);
        gives(SUB, 13, 11, -22, 7, 333, 77, 4);
        gives(MUL, 13, 11, -22, 7, -26, 7, 3);
        gives(DIV, 13, 11, -22, 7, -91, 242, 8);
        gives(ADD, 1, 2, 1, 2, 1, 1, 1);
        gives(ADD, -1, 2, 1, 2, 0, 1, 1);
        gives(SUB, 1, 3, 1, 2, -1, 6, 3);
        gives(MUL, -2, 3, -3, 2, 1, 1, 1);
        gives(DIV, -1, 2, -1, 4, 2, 1, 1);
        gives(DIV, 1, 2, -1, 4, -2, 1, 1);
        gives(DIV, 0, 1, -7, 5, 0, 1, 1);
    }

    private static void edges() {
        gives(ADD, 9998, 1, 1, 1, 9999, 1, 1);
        gives(SUB, -9998, 1, 1, 1, -9999, 1, 1);
        gives(MUL, 9999, 1, -1, 1, -9999, 1, 1);
        gives(DIV, 1, 1, 9999, 1, 1, 9999, 2);
        gives(DIV, 1, 1, -9999, 1, -1, 9999, 3);
        gives(MUL, 9999, 9998, 9998, 9997, 9999, 9997, 3);
        gives(DIV, 9999, 9998, 9999, 9998, 1, 1, 1);
        gives(DIV, -9999, 9998, 9999, 9998, -1, 1, 1);
        gives(SUB, 9999, 9998, 9999, 9998, 0, 1, 1);
    }

    private static void gives(int op, int p, int q, int s, int t, int top, int bottom, int terms) {
        GosperFractions x = Due.with(p, q, s, t, 3, 5, 3, 5);
        String call = "apply(" + op + ", 2, 0, 1) of " + p + " / " + q + " and " + s + " / " + t;
        Due.is(call, x.apply(op, 2, 0, 1), terms);
        Due.holds(call, x, 2, top, bottom);
        Due.is(call + ": terms(2)", x.terms(2), terms);
        Due.holds(call, x, 0, p, q);
        Due.holds(call, x, 1, s, t);
        Due.holds(call, x, 3, 3, 5);
    }

    private static void sameRegisters() {
        GosperFractions x = Due.with(2, 3, 4, 5);
        Due.is("apply(SUB, 0, 0, 1)", x.apply(SUB, 0, 0, 1), 4);
        Due.holds("apply(SUB, 0, 0, 1)", x, 0, -2, 15);
        Due.is("apply(DIV, 1, 0, 1)", x.apply(DIV, 1, 0, 1), 3);
        Due.holds("apply(DIV, 1, 0, 1)", x, 1, -1, 6);
        Due.is("apply(DIV, 1, 1, 1)", x.apply(DIV, 1, 1, 1), 1);
        Due.holds("apply(DIV, 1, 1, 1)", x, 1, 1, 1);
        Due.is("apply(ADD, 1, 1, 1)", x.apply(ADD, 1, 1, 1), 1);
        Due.holds("apply(ADD, 1, 1, 1)", x, 1, 2, 1);
    }

    private static void tooBig() {
        refused(ADD, 2, 0, 1, GosperFractions.TOO_BIG, Due.with(9999, 1, 1, 1, 3, 5, 0, 1));
        refused(SUB, 2, 0, 1, GosperFractions.TOO_BIG, Due.with(-9999, 1, 1, 1, 3, 5, 0, 1));
        refused(ADD, 0, 0, 1, GosperFractions.TOO_BIG, Due.with(9999, 9998, 9998, 9997, 3, 5, 0, 1));
        refused(SUB, 1, 0, 1, GosperFractions.TOO_BIG, Due.with(9999, 9998, 9998, 9997, 3, 5, 0, 1));
        refused(MUL, 2, 0, 1, GosperFractions.TOO_BIG, Due.with(100, 1, 100, 1, 3, 5, 0, 1));
        refused(MUL, 2, 0, 1, GosperFractions.TOO_BIG, Due.with(1, 100, 1, 100, 3, 5, 0, 1));
        refused(MUL, 2, 0, 1, GosperFractions.TOO_BIG, Due.with(-100, 1, 100, 1, 3, 5, 0, 1));
        refused(DIV, 2, 0, 1, GosperFractions.TOO_BIG, Due.with(1, 5000, 2, 1, 3, 5, 0, 1));
        refused(DIV, 2, 0, 1, GosperFractions.TOO_BIG, Due.with(5000, 1, -1, 2, 3, 5, 0, 1));
        refused(MUL, 2, 0, 0, GosperFractions.TOO_BIG, Due.with(-9999, 1, 1, 1, 3, 5, 0, 1));
        refused(DIV, 2, 0, 1, GosperFractions.TOO_BIG, Due.with(9999, 1, 1, 9999, 3, 5, 0, 1));
        refused(ADD, 2, 0, 0, GosperFractions.TOO_BIG, Due.with(-9998, 1, 1, 1, 3, 5, 0, 1));
    }

    private static void wrongInputs() {
        for (int op : new int[] {-1, 4, 5, Integer.MIN_VALUE, Integer.MAX_VALUE}) {
            refused(op, 2, 0, 1, GosperFractions.BAD, Due.with(1, 2, 0, 1, 3, 5, 4, 5));
        }
        for (int op = ADD; op <= DIV; op++) {
            for (int r : Due.WRONG_REGISTERS) {
                // Register 1 is 0: a bad number is told before the division by 0.
                refused(op, r, 0, 1, GosperFractions.BAD, Due.with(1, 2, 0, 1, 3, 5, 4, 5));
                refused(op, 2, r, 1, GosperFractions.BAD, Due.with(1, 2, 0, 1, 3, 5, 4, 5));
                refused(op, 2, 0, r, GosperFractions.BAD, Due.with(1, 2, 0, 1, 3, 5, 4, 5));
            }
        }
        refused(DIV, 2, 0, 1, GosperFractions.NONE, Due.with(1, 2, 0, 1, 3, 5, 4, 5));
        refused(DIV, 2, 0, 1, GosperFractions.NONE, Due.with(9999, 1, 0, 1, 3, 5, 4, 5));
        refused(DIV, 2, 1, 1, GosperFractions.NONE, Due.with(1, 2, 0, 1, 3, 5, 4, 5));
        refused(DIV, 1, 0, 1, GosperFractions.NONE, Due.with(-1, 2, 0, 1, 3, 5, 4, 5));
    }

    private static void refused(int op, int d, int a, int b, int why, GosperFractions x) {
        int[] before = new int[8];
        for (int r = 0; r < 4; r++) {
            before[2 * r] = x.top(r);
            before[2 * r + 1] = x.bottom(r);
        }
        String call = "apply(" + op + ", " + d + ", " + a + ", " + b + ")";
        Due.is(call, x.apply(op, d, a, b), why);
        for (int r = 0; r < 4; r++) {
            Due.holds(call, x, r, before[2 * r], before[2 * r + 1]);
        }
    }
}
