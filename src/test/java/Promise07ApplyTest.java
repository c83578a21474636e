public final class Promise07ApplyTest {
    private static final int ADD = GosperFractions.ADD;
    private static final int SUB = GosperFractions.SUB;
    private static final int MUL = GosperFractions.MUL;
    private static final int DIV = GosperFractions.DIV;

    public static void main(String[] args) {
        results();
        sameRegisters();
        refusals();
        Due.end();
    }

    private static void results() {
        gives(ADD, 13, 11, -22, 7, -151, 77, 4);
        gives(SUB, 13, 11, -22, 7, 333, 77, 4);
        gives(MUL, 13, 11, -22, 7, -26, 7, 3);
        gives(DIV, 13, 11, -22, 7, -91, 242, 8);
        gives(ADD, 1, 2, 1, 2, 1, 1, 1);
        gives(ADD, -1, 2, 1, 2, 0, 1, 1);
        gives(SUB, 1, 3, 1, 2, -1, 6, 3);
        gives(MUL, -2, 3, -3, 2, 1, 1, 1);
        gives(DIV, -1, 2, -1, 4, 2, 1, 1);
        gives(DIV, 1, 2, -1, 4, -2, 1, 1);
        gives(DIV, 0, 1, -7, 5, 0, 1, 1);
    }

    private static void gives(int op, int p, int q, int s, int t, int top, int bottom, int terms) {
        GosperFractions x = Due.with(p, q, s, t, 3, 5, 3, 5);
        String call = "apply(" + op + ", 2, 0, 1) of " + p + " / " + q + " and " + s + " / " + t;
        Due.changesOnly(2, top, bottom, call, x, () -> x.apply(op, 2, 0, 1), terms);
        Due.is(call + ": terms(2)", x.terms(2), terms);
    }

    private static void sameRegisters() {
        GosperFractions x = Due.with(2, 3, 4, 5);
        Due.changesOnly(0, -2, 15, "apply(SUB, 0, 0, 1)", x, () -> x.apply(SUB, 0, 0, 1), 4);
        Due.changesOnly(1, -1, 6, "apply(DIV, 1, 0, 1)", x, () -> x.apply(DIV, 1, 0, 1), 3);
        Due.changesOnly(1, 1, 1, "apply(DIV, 1, 1, 1)", x, () -> x.apply(DIV, 1, 1, 1), 1);
        Due.changesOnly(1, 2, 1, "apply(ADD, 1, 1, 1)", x, () -> x.apply(ADD, 1, 1, 1), 1);
    }

    private static void refusals() {
        GosperFractions x = Due.with(9999, 1, 0, 1, 2, 1);
        Due.changesNothing("apply(4, 2, 0, 2)", x, () -> x.apply(4, 2, 0, 2), GosperFractions.BAD);
        Due.changesNothing("apply(DIV, 2, 0, 1)", x, () -> x.apply(DIV, 2, 0, 1), GosperFractions.NONE);
        Due.changesNothing("apply(MUL, 2, 0, 2)", x, () -> x.apply(MUL, 2, 0, 2), GosperFractions.TOO_BIG);
    }
}
