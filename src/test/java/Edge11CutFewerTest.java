/** "the first count terms of the chain of a (all of them if it has fewer)" */
public final class Edge11CutFewerTest {
    public static void main(String[] args) {
        // One term less than there are, as many, one more, and as many as an int can ask for.
        gives(13, 11, 2, 6, 5, 2);
        all(13, 11, 3);
        gives(1, 9999, 1, 0, 1, 1);
        all(1, 9999, 2);
        gives(-1, 9999, 1, -1, 1, 1);
        gives(-1, 9999, 2, 0, 1, 1);
        all(-1, 9999, 3);
        gives(-9999, 2, 1, -5000, 1, 1);
        all(-9999, 2, 2);
        gives(6765, 4181, 17, 2584, 1597, 16);
        all(6765, 4181, 18);
        gives(4181, 6765, 18, 1597, 2584, 17);
        all(4181, 6765, 19);
        all(0, 1, 1);
        all(1, 1, 1);
        all(-9999, 1, 1);
        all(9999, 1, 1);
        Due.end();
    }

    private static void all(int p, int q, int length) {
        gives(p, q, length, p, q, length);
        gives(p, q, length + 1, p, q, length);
        gives(p, q, 65536, p, q, length);
        gives(p, q, Integer.MAX_VALUE - 1, p, q, length);
        gives(p, q, Integer.MAX_VALUE, p, q, length);
    }

    /** Into every register, that of a among them. */
    private static void gives(int p, int q, int count, int top, int bottom, int terms) {
        for (int d = 0; d < 4; d++) {
            into(d, p, q, count, top, bottom, terms);
        }
    }

    private static void into(int d, int p, int q, int count, int top, int bottom, int terms) {
        GosperFractions x = Due.with(3, 5, p, q, 3, 5, 3, 5);
        String call = "cut(" + d + ", 1, " + count + ") of " + p + " / " + q;
        Due.changesOnly(d, top, bottom, call, x, () -> x.cut(d, 1, count), terms);
    }
}
