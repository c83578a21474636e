/**
 * "Tested in this order: d or a outside 0..3, or a coefficient not from 0 to 99: BAD; m * a + n is 0: NONE; the result
 * does not fit: TOO_BIG."
 */
public final class Edge08TransformTest {
    private static final int BAD = GosperFractions.BAD;
    private static final int NONE = GosperFractions.NONE;
    private static final int TOO_BIG = GosperFractions.TOO_BIG;
    private static final int[] WRONG_COEFFICIENTS = {-1, 100, -2, 101, -99, -100, 256, 899, 900, 998, 999};

    public static void main(String[] args) {
        lastRegistersInside();
        lastCoefficientsInside();
        registerOutside();
        coefficientOutside();
        packedOutside();
        badBeforeNoneBeforeTooBig();
        bottomZero();
        topAtTheEdge();
        bottomAtTheEdge();
        greatestOnTheWay();
        Due.end();
    }

    private static long packed(long k, long l, long m, long n) {
        return 1000 * (1000 * (1000 * k + l) + m) + n;
    }

    private static void lastRegistersInside() {
        for (int d = 0; d < 4; d++) {
            for (int a = 0; a < 4; a++) {
                addOne(d, a);
            }
        }
    }

    private static void addOne(int d, int a) {
        GosperFractions x = Due.with(1, 2, 3, 2, 5, 2, 7, 2);
        String call = "transform(" + d + ", " + a + ", 1001000001)";
        Due.changesOnly(d, 2 * a + 3, 2, call, x, () -> x.transform(d, a, packed(1, 1, 0, 1)), 2);
    }

    private static void lastCoefficientsInside() {
        taken(1, 1, packed(99, 0, 0, 1), 99, 1, 1);
        taken(1, 1, packed(0, 99, 0, 1), 99, 1, 1);
        taken(1, 1, packed(0, 1, 99, 0), 1, 99, 2);
        taken(1, 1, packed(0, 1, 0, 99), 1, 99, 2);
        taken(5, 7, packed(0, 0, 0, 1), 0, 1, 1);
        taken(5, 7, packed(0, 0, 1, 0), 0, 1, 1);
        taken(5, 7, packed(99, 99, 99, 99), 1, 1, 1);
        taken(5, 7, packed(99, 99, 99, 98), 1188, 1181, 5);
        taken(5, 7, packed(98, 99, 99, 99), 1183, 1188, 6);
    }

    private static void registerOutside() {
        for (int r : Due.WRONG_REGISTERS) {
            refused(r, 0, packed(1, 0, 0, 1), BAD, 1, 2, 1, 3, 3, 5, 4, 5);
            refused(0, r, packed(1, 0, 0, 1), BAD, 1, 2, 1, 3, 3, 5, 4, 5);
            refused(r, r, packed(1, 0, 0, 1), BAD, 1, 2, 1, 3, 3, 5, 4, 5);
            refused(r, r, Long.MIN_VALUE, BAD, 1, 2, 1, 3, 3, 5, 4, 5);
        }
    }

    /** One coefficient outside, the others at their least and at their greatest. */
    private static void coefficientOutside() {
        for (int wrong : WRONG_COEFFICIENTS) {
            for (int rest : new int[] {0, 1, 99}) {
                bad(packed(wrong, rest, rest, rest));
                bad(packed(rest, wrong, rest, rest));
                bad(packed(rest, rest, wrong, rest));
                bad(packed(rest, rest, rest, wrong));
            }
            bad(packed(wrong, wrong, wrong, wrong));
        }
    }

    private static void packedOutside() {
        bad(Long.MIN_VALUE);
        bad(Long.MIN_VALUE + 1);
        bad(Long.MAX_VALUE);
        bad(Integer.MIN_VALUE);
        bad(Integer.MAX_VALUE);
        bad(-1L);
        bad(packed(99, 99, 99, 99) + 1);
        bad(-packed(1, 0, 0, 1));
        bad(-packed(99, 99, 99, 99));
        // In three digits, in 32 bits and in 64 bits without a sign these would look good.
        bad(packed(1001, 0, 0, 1));
        bad(packed(1, 0, 0, 1) + (1L << 37));
        bad(packed(1, 0, 0, 1) + (1L << 40));
        bad(packed(1, 0, 0, 1) + (1L << 62));
        bad(packed(1, 0, 0, 1) + Long.MIN_VALUE);
    }

    private static void bad(long coefficients) {
        for (int d = 0; d < 4; d++) {
            refused(d, 1, coefficients, BAD, 13, 11, 5, 7, 3, 5, 4, 5);
        }
    }

    private static void badBeforeNoneBeforeTooBig() {
        for (int r : Due.WRONG_REGISTERS) {
            refused(r, 0, packed(1, 1, 0, 0), BAD, 9999, 1, 0, 1, 3, 5, 4, 5);
            refused(r, 0, packed(2, 0, 0, 1), BAD, 9999, 1, 0, 1, 3, 5, 4, 5);
            refused(2, r, packed(1, 1, 0, 0), BAD, 9999, 1, 0, 1, 3, 5, 4, 5);
        }
        refused(2, 0, packed(100, 0, 0, 0), BAD, 9999, 1, 0, 1, 3, 5, 4, 5);
        refused(2, 0, packed(0, 100, 0, 0), BAD, 9999, 1, 0, 1, 3, 5, 4, 5);
        refused(2, 1, packed(0, 1, 100, 0), BAD, 9999, 1, 0, 1, 3, 5, 4, 5);
        refused(2, 0, packed(1, 1, 100, 100), BAD, -1, 1, 0, 1, 3, 5, 4, 5);
        refused(2, 0, packed(100, 0, 0, 1), BAD, 9999, 1, 0, 1, 3, 5, 4, 5);
        refused(2, 0, packed(0, 1, 0, 100), BAD, 9999, 1, 0, 1, 3, 5, 4, 5);
        // The numerator alone would be too big.
        refused(2, 0, packed(99, 99, 0, 0), NONE, 9999, 1, 0, 1, 3, 5, 4, 5);
        refused(2, 0, packed(99, 0, 99, 99), NONE, -1, 1, 0, 1, 3, 5, 4, 5);
    }

    private static void bottomZero() {
        none(5, 7, packed(0, 0, 0, 0));
        none(5, 7, packed(99, 99, 0, 0));
        none(0, 1, packed(1, 1, 99, 0));
        none(0, 1, packed(1, 0, 1, 0));
        none(-1, 2, packed(1, 1, 2, 1));
        none(-1, 1, packed(1, 1, 1, 1));
        none(-1, 1, packed(1, 0, 99, 99));
        none(-99, 1, packed(1, 1, 1, 99));
        none(-1, 99, packed(1, 1, 99, 1));
        // The least steps away from 0, on both sides.
        taken(-99, 1, packed(0, 1, 1, 98), -1, 1, 1);
        taken(-98, 1, packed(0, 1, 1, 99), 1, 1, 1);
        taken(1, 9999, packed(0, 1, 1, 0), 9999, 1, 1);
        taken(-1, 9999, packed(0, 1, 1, 0), -9999, 1, 1);
        taken(-1, 2, packed(0, 1, 2, 2), 1, 1, 1);
        taken(-1, 2, packed(0, 1, 2, 0), -1, 1, 1);
        taken(-9999, 9998, packed(0, 1, 1, 1), -9998, 1, 1);
        tooBig(-1, 9999, packed(0, 2, 1, 0));
    }

    private static void none(int p, int q, long coefficients) {
        for (int d = 0; d < 4; d++) {
            refused(d, 0, coefficients, NONE, p, q, 13, 11, 3, 5, 4, 5);
        }
    }

    private static void topAtTheEdge() {
        taken(101, 1, packed(99, 0, 0, 1), 9999, 1, 1);
        tooBig(102, 1, packed(99, 0, 0, 1));
        taken(-101, 1, packed(99, 0, 0, 1), -9999, 1, 1);
        tooBig(-102, 1, packed(99, 0, 0, 1));
        taken(9998, 1, packed(1, 1, 0, 1), 9999, 1, 1);
        tooBig(9999, 1, packed(1, 1, 0, 1));
        taken(9900, 1, packed(1, 99, 0, 1), 9999, 1, 1);
        tooBig(9901, 1, packed(1, 99, 0, 1));
        taken(9999, 2, packed(2, 0, 0, 1), 9999, 1, 1);
        tooBig(9999, 2, packed(2, 1, 0, 1));
        // A divisor below 0 turns the sign.
        taken(-101, 1, packed(0, 99, 1, 99), -99, 2, 2);
        taken(1, 101, packed(0, 99, 1, 0), 9999, 1, 1);
        tooBig(1, 102, packed(0, 99, 1, 0));
        taken(-1, 101, packed(0, 99, 1, 0), -9999, 1, 1);
        tooBig(-1, 102, packed(0, 99, 1, 0));
        // 9999 on top at once, with a divisor that leaves it there.
        taken(9998, 1, packed(1, 1, 0, 2), 9999, 2, 2);
        tooBig(9999, 1, packed(1, 2, 0, 2));
        taken(9999, 1, packed(1, 1, 0, 2), 5000, 1, 1);
    }

    private static void bottomAtTheEdge() {
        taken(1, 101, packed(1, 0, 0, 99), 1, 9999, 2);
        tooBig(1, 102, packed(1, 0, 0, 99));
        taken(-1, 101, packed(1, 0, 0, 99), -1, 9999, 3);
        tooBig(-1, 102, packed(1, 0, 0, 99));
        taken(9998, 1, packed(0, 1, 1, 1), 1, 9999, 2);
        tooBig(9999, 1, packed(0, 1, 1, 1));
        taken(-9999, 1, packed(0, 1, 1, 0), -1, 9999, 3);
        tooBig(-5000, 1, packed(0, 1, 2, 0));
        taken(9999, 1, packed(0, 2, 1, 1), 1, 5000, 2);
        tooBig(9999, 1, packed(0, 3, 1, 1));
    }

    private static void tooBig(int p, int q, long coefficients) {
        for (int d = 0; d < 4; d++) {
            refused(d, 0, coefficients, TOO_BIG, p, q, 13, 11, 3, 5, 4, 5);
        }
    }

    /** The greatest numbers before they are put in lowest terms. */
    private static void greatestOnTheWay() {
        taken(9999, 9998, packed(99, 99, 99, 99), 1, 1, 1);
        taken(-9999, 9998, packed(99, 99, 99, 99), 1, 1, 1);
        taken(9999, 1, packed(99, 99, 99, 99), 1, 1, 1);
        taken(-9999, 1, packed(99, 0, 99, 0), 1, 1, 1);
        tooBig(9999, 9998, packed(99, 99, 99, 98));
        tooBig(9999, 1, packed(99, 99, 0, 1));
        tooBig(-9999, 1, packed(99, 0, 0, 1));
        tooBig(1, 9999, packed(1, 0, 99, 99));
        tooBig(-9999, 1, packed(0, 1, 99, 0));
    }

    private static void taken(int p, int q, long coefficients, int top, int bottom, int terms) {
        GosperFractions x = Due.with(p, q, 13, 11, 3, 5, 4, 5);
        String call = "transform(2, 0, " + coefficients + ") of " + p + " / " + q;
        Due.changesOnly(2, top, bottom, call, x, () -> x.transform(2, 0, coefficients), terms);
        Due.is(call + ": terms(2)", x.terms(2), terms);
    }

    private static void refused(int d, int a, long coefficients, int why, int... parts) {
        GosperFractions x = Due.with(parts);
        Due.changesNothing("transform(" + d + ", " + a + ", " + coefficients + ")", x, () -> x.transform(d, a, coefficients), why);
    }
}
