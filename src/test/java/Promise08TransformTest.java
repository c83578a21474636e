public final class Promise08TransformTest {
    public static void main(String[] args) {
        ordinary();
        edges();
        wrongInputs();
        Due.end();
    }

    private static void ordinary() {
        gives(13, 11, 2001001003L, 37, 46, 4);
        gives(-1, 2, 1000001001L, -1, 1, 1);
        gives(5, 7, 1000000001L, 5, 7, 4);
        gives(5, 7, 1001000L, 7, 5, 3);
        gives(-5, 7, 1001000L, -7, 5, 4);
        gives(-5, 7, 12000000003L, -20, 7, 2);
        gives(4, 9, 34000017L, 2, 1, 1);
        gives(0, 1, 5006007008L, 3, 4, 3);
    }

    private static void edges() {
        gives(1, 2, 99099001000L, 297, 1, 1);
        gives(1, 1, 99099099099L, 1, 1, 1);
        gives(9999, 1, 1000000001L, 9999, 1, 1);
        gives(-9999, 1, 1000000001L, -9999, 1, 1);
        gives(-9999, 1, 1001000L, -1, 9999, 3);
        gives(1, 9999, 1000000001L, 1, 9999, 2);
        gives(9999, 9998, 1L, 0, 1, 1);
        gives(9999, 1, 99099099099L, 1, 1, 1);
        gives(101, 1, 99000000001L, 9999, 1, 1);
        refused(-9999, 9998, 99099099098L, GosperFractions.TOO_BIG);
        refused(102, 1, 99000000001L, GosperFractions.TOO_BIG);
        refused(-9999, 1, 2000000001L, GosperFractions.TOO_BIG);
        refused(9999, 1, 1001000001L, GosperFractions.TOO_BIG);
        refused(1, 9999, 1000000002L, GosperFractions.TOO_BIG);
        refused(-1, 9999, 1000000099L, GosperFractions.TOO_BIG);
        refused(-1, 2, 1001002001L, GosperFractions.NONE);
        refused(5, 7, 1001000000L, GosperFractions.NONE);
        refused(5, 7, 0L, GosperFractions.NONE);
        refused(-1, 1, 99099099099L, GosperFractions.NONE);
        refused(0, 1, 1001099000L, GosperFractions.NONE);
        GosperFractions x = Due.with(2, 3);
        Due.is("transform(0, 0, 1001000001)", x.transform(0, 0, 1001000001L), 3);
        Due.holds("transform(0, 0, 1001000001)", x, 0, 5, 3);
    }

    private static void wrongInputs() {
        GosperFractions x = Due.with(2, 3, 2, 3, 2, 3, 2, 3);
        for (int r : Due.WRONG_REGISTERS) {
            Due.is("transform(" + r + ", 0, 1)", x.transform(r, 0, 1L), GosperFractions.BAD);
            Due.is("transform(0, " + r + ", 1)", x.transform(0, r, 1L), GosperFractions.BAD);
            Due.is("transform(" + r + ", 0, 0)", x.transform(r, 0, 0L), GosperFractions.BAD);
        }
        long[] places = {1L, 1000L, 1000000L, 1000000000L};
        for (long place : places) {
            for (long coefficient : new long[] {100L, 101L, 500L, 999L, -1L, -99L}) {
                refused(2, 3, coefficient * place, GosperFractions.BAD);
                refused(2, 3, coefficient * place + (place == 1L ? 1000L : 1L), GosperFractions.BAD);
            }
        }
        refused(2, 3, 1001001100L, GosperFractions.BAD);
        refused(2, 3, 1001100001L, GosperFractions.BAD);
        refused(2, 3, 1100001001L, GosperFractions.BAD);
        refused(2, 3, 100001001001L, GosperFractions.BAD);
        refused(2, 3, 99099099100L, GosperFractions.BAD);
        refused(2, 3, 1000000000001L, GosperFractions.BAD);
        // These would pass if only the low 32 bits, or three digits of k, were looked at.
        refused(2, 3, 1L + (1L << 40), GosperFractions.BAD);
        refused(2, 3, 1001000000001L, GosperFractions.BAD);
        refused(2, 3, Long.MAX_VALUE, GosperFractions.BAD);
        refused(2, 3, Long.MIN_VALUE, GosperFractions.BAD);
    }

    private static void gives(int p, int q, long coefficients, int top, int bottom, int terms) {
        GosperFractions x = Due.with(p, q, 3, 5, 3, 5, 3, 5);
        String call = "transform(2, 0, " + coefficients + ") of " + p + " / " + q;
        Due.is(call, x.transform(2, 0, coefficients), terms);
        Due.holds(call, x, 2, top, bottom);
        Due.is(call + ": terms(2)", x.terms(2), terms);
        Due.holds(call, x, 0, p, q);
        Due.holds(call, x, 1, 3, 5);
        Due.holds(call, x, 3, 3, 5);
    }

    private static void refused(int p, int q, long coefficients, int why) {
        GosperFractions x = Due.with(p, q, 3, 5, 3, 5, 3, 5);
        String call = "transform(2, 0, " + coefficients + ") of " + p + " / " + q;
        Due.is(call, x.transform(2, 0, coefficients), why);
        Due.holds(call, x, 0, p, q);
        for (int r = 1; r < 4; r++) {
            Due.holds(call, x, r, 3, 5);
        }
    }
}
