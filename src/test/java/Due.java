import java.util.function.IntSupplier;

/** Counts and prints the answers that are not the ones due. */
final class Due {
    /** The first ones outside on each side, the least and the greatest; 256 and 65536 have 0 in their low bits. */
    static final int[] WRONG_REGISTERS = {-1, 4, -2, 5, 256, 65536, Integer.MIN_VALUE, Integer.MAX_VALUE};
    private static int wrong = 0;
    private static int checked = 0;

    private Due() {
    }

    static void is(String call, long got, long want) {
        checked++;
        if (got != want) {
            wrong++;
            System.out.println(call + " answered " + got + ", due is " + want);
        }
    }

    static void is(String call, boolean got, boolean want) {
        is(call, got ? 1L : 0L, want ? 1L : 0L);
    }

    /** Register r holds p / q. */
    static void holds(String after, GosperFractions x, int r, int p, int q) {
        is(after + ": top(" + r + ")", x.top(r), p);
        is(after + ": bottom(" + r + ")", x.bottom(r), q);
    }

    /** Register r has just these terms. */
    static void chain(String after, GosperFractions x, int r, int... terms) {
        is(after + ": terms(" + r + ")", x.terms(r), terms.length);
        for (int i = 0; i < terms.length; i++) {
            is(after + ": term(" + r + ", " + i + ")", x.term(r, i), terms[i]);
        }
        is(after + ": term(" + r + ", " + terms.length + ")", x.term(r, terms.length), GosperFractions.NONE);
    }

    /** A new object with these fractions, p and q in turn, in its registers from 0 on. */
    static GosperFractions with(int... parts) {
        GosperFractions x = new GosperFractions();
        for (int r = 0; 2 * r < parts.length; r++) {
            is("set(" + r + ", " + parts[2 * r] + ", " + parts[2 * r + 1] + ")", x.set(r, parts[2 * r], parts[2 * r + 1]), true);
        }
        return x;
    }

    /** An object whose registers hold four fractions of different shapes. */
    static GosperFractions filled() {
        return with(13, 11, -22, 7, 9999, 9998, -5, 1);
    }

    /** The call answers this, and no register changes. */
    static void changesNothing(String call, GosperFractions x, IntSupplier answer, int want) {
        int[] due = registers(x);
        is(call, answer.getAsInt(), want);
        hold(call, x, due);
    }

    /** The call answers this, register d becomes p / q, and no other register changes. */
    static void changesOnly(int d, int p, int q, String call, GosperFractions x, IntSupplier answer, int want) {
        int[] due = registers(x);
        due[2 * d] = p;
        due[2 * d + 1] = q;
        is(call, answer.getAsInt(), want);
        hold(call, x, due);
    }

    private static void hold(String after, GosperFractions x, int[] due) {
        for (int r = 0; r < 4; r++) {
            holds(after, x, r, due[2 * r], due[2 * r + 1]);
        }
    }

    private static int[] registers(GosperFractions x) {
        int[] parts = new int[8];
        for (int r = 0; r < 4; r++) {
            parts[2 * r] = x.top(r);
            parts[2 * r + 1] = x.bottom(r);
        }
        return parts;
    }

    static void end() {
        if (wrong != 0) {
            System.out.println(wrong + " of " + checked + " answers are not as due");
            System.exit(1);
        }
        System.out.println("all " + checked + " answers are as due");
    }
}
