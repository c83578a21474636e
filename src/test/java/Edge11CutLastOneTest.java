/**
 * "If the last of these is 1 and not the only one, the chain read off has a last term 1; its value is meant all the
 * same." The answer counts the terms of the new value's own chain, one less.
 */
public final class Edge11CutLastOneTest {
    public static void main(String[] args) {
        // Terms -4, 1, 6: the 1 is the last read off, and the term before it grows by 1.
        gives(-22, 7, 2, -3);
        gives(-1, 3, 2, 0);
        gives(-9999, 9998, 2, -1);
        gives(-5001, 5000, 2, -1);
        gives(9998, 9999, 2, 1);
        gives(9999, 5000, 2, 2);
        gives(6765, 4181, 2, 2);
        gives(6765, 4181, 3, 1, 2);
        gives(6765, 4181, 4, 1, 1, 2);
        gives(4181, 6765, 18, 0, 1, 1, 1, 1, 1, 1, 1, 1, 1, 1, 1, 1, 1, 1, 1, 2);
        // Terms 0, 1999, 1, 1, 2: of two of them in a row, only the last read off goes.
        gives(5, 9998, 3, 0, 2000);
        gives(5, 9998, 4, 0, 1999, 2);
        // A last term 2 stays, and so does a 1 that is the only one.
        gives(13, 11, 3, 1, 5, 2);
        gives(5, 2, 2, 2, 2);
        gives(3, 2, 1, 1);
        gives(6765, 4181, 1, 1);
        gives(1, 1, 1, 1);
        gives(1, 1, 2, 1);
        everySmallFraction();
        Due.end();
    }

    private static void gives(int p, int q, int count, int... terms) {
        GosperFractions x = Due.with(p, q);
        String call = "cut(3, 0, " + count + ") of " + p + " / " + q;
        Due.is(call, x.cut(3, 0, count), terms.length);
        Due.chain(call, x, 3, terms);
    }

    private static void everySmallFraction() {
        for (int p = -80; p <= 80; p++) {
            for (int q = 1; q <= 40; q++) {
                everyCount(p, q);
            }
        }
        for (int part = 9900; part <= 9999; part++) {
            everyCount(part, 6181);
            everyCount(-part, 6181);
            everyCount(6180, part);
            everyCount(-6180, part);
        }
    }

    /** From the terms as they are read off: a last 1 behind others goes into the one before it. */
    private static void everyCount(int p, int q) {
        GosperFractions x = Due.with(p, q);
        int[] all = new int[x.terms(0)];
        for (int i = 0; i < all.length; i++) {
            all[i] = x.term(0, i);
        }
        for (int count = 1; count <= all.length; count++) {
            int length = count > 1 && all[count - 1] == 1 ? count - 1 : count;
            int[] due = new int[length];
            System.arraycopy(all, 0, due, 0, length);
            due[length - 1] += count - length;
            gives(p, q, count, due);
        }
    }
}
