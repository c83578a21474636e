/** Four registers of exact fractions, and the chains of whole numbers whose values they are. */
public final class GosperFractions {
    public static final int ADD = 0;
    public static final int SUB = 1;
    public static final int MUL = 2;
    public static final int DIV = 3;
    public static final int BAD = -1000000;
    public static final int NONE = -1000001;
    public static final int TOO_BIG = -1000002;

    private static final int REGISTERS = 4;
    /** With parts up to this size, every product and sum below stays inside an int. */
    private static final int GREATEST_PART = 9999;
    private static final int GREATEST_COEFFICIENT = 99;
    private static final long GREATEST_PACKED = 99099099099L;
    /** Euclid's walk needs fewer than fifty steps for any two ints: this bound is never met. */
    private static final int MOST_STEPS = 1000;

    private final int[] tops = new int[REGISTERS];
    private final int[] bottoms = new int[REGISTERS];

    public GosperFractions() {
        for (int r = 0; r < REGISTERS; r++) {
            bottoms[r] = 1;
        }
    }

    public boolean set(int r, int p, int q) {
        if (!isRegister(r) || q < 1 || !fits(p, q)) {
            return false;
        }
        store(r, p, q);
        return true;
    }

    public int top(int r) {
        return isRegister(r) ? tops[r] : BAD;
    }

    public int bottom(int r) {
        return isRegister(r) ? bottoms[r] : BAD;
    }

    public int terms(int r) {
        return isRegister(r) ? chainLength(r) : BAD;
    }

    public int term(int r, int i) {
        if (!isRegister(r)) {
            return BAD;
        }
        if (i < 0) {
            return NONE;
        }
        int p = tops[r];
        int q = bottoms[r];
        for (int step = 0; step < i && q > 0; step++) {
            int rest = p - floor(p, q) * q;
            p = q;
            q = rest;
        }
        return q > 0 ? floor(p, q) : NONE;
    }

    public int apply(int op, int d, int a, int b) {
        if (op < ADD || op > DIV || !isRegister(d) || !isRegister(a) || !isRegister(b)) {
            return BAD;
        }
        int p = tops[a];
        int q = bottoms[a];
        int s = tops[b];
        int t = bottoms[b];
        switch (op) {
            case ADD:
                return store(d, p * t + s * q, q * t);
            case SUB:
                return store(d, p * t - s * q, q * t);
            case MUL:
                return store(d, p * s, q * t);
            default:
                return store(d, p * t, q * s);
        }
    }

    public int transform(int d, int a, long coefficients) {
        if (!isRegister(d) || !isRegister(a)) {
            return BAD;
        }
        // The bounds of the whole also keep k in its range.
        if (coefficients < 0 || coefficients > GREATEST_PACKED) {
            return BAD;
        }
        int k = (int) (coefficients / 1000000000L);
        int l = (int) (coefficients / 1000000L % 1000L);
        int m = (int) (coefficients / 1000L % 1000L);
        int n = (int) (coefficients % 1000L);
        if (l > GREATEST_COEFFICIENT || m > GREATEST_COEFFICIENT || n > GREATEST_COEFFICIENT) {
            return BAD;
        }
        int p = tops[a];
        int q = bottoms[a];
        return store(d, k * p + l * q, m * p + n * q);
    }

    public int compare(int a, int b) {
        return isRegister(a) && isRegister(b) ? order(a, b) : BAD;
    }

    public int between(int d, int a, int b) {
        if (!isRegister(d) || !isRegister(a) || !isRegister(b)) {
            return BAD;
        }
        boolean rising = order(a, b) <= 0;
        int low = rising ? a : b;
        int high = rising ? b : a;
        int p = tops[low];
        int q = bottoms[low];
        // Up to the low end's own denominator every one is tried, and there the low end itself serves.
        for (int bottom = 1; bottom < q; bottom++) {
            int least = -floor(-p * bottom, q);
            if (least * bottoms[high] <= tops[high] * bottom) {
                store(d, least, bottom);
                return bottom;
            }
        }
        store(d, p, q);
        return q;
    }

    public int cut(int d, int a, int count) {
        if (!isRegister(d) || !isRegister(a) || count < 1) {
            return BAD;
        }
        int p = tops[a];
        int q = bottoms[a];
        int top = 1;
        int bottom = 0;
        int topBefore = 0;
        int bottomBefore = 1;
        for (int i = 0; i < count && q > 0; i++) {
            int whole = floor(p, q);
            int rest = p - whole * q;
            p = q;
            q = rest;
            int nextTop = whole * top + topBefore;
            int nextBottom = whole * bottom + bottomBefore;
            topBefore = top;
            bottomBefore = bottom;
            top = nextTop;
            bottom = nextBottom;
        }
        return store(d, top, bottom);
    }

    private static boolean isRegister(int r) {
        return r >= 0 && r < REGISTERS;
    }

    /** Whether p / q, with q above 0, is small enough for a register. */
    private static boolean fits(int p, int q) {
        return p >= -GREATEST_PART && p <= GREATEST_PART && q <= GREATEST_PART;
    }

    /** Puts p / q in lowest terms into register d and answers its chain's length, or changes nothing and says why. */
    private int store(int d, int p, int q) {
        if (q == 0) {
            return NONE;
        }
        int sign = q < 0 ? -1 : 1;
        int top = sign * p;
        int bottom = sign * q;
        int divisor = commonDivisor(top, bottom);
        if (divisor > 1) {
            top /= divisor;
            bottom /= divisor;
        }
        if (!fits(top, bottom)) {
            return TOO_BIG;
        }
        tops[d] = top;
        bottoms[d] = bottom;
        return chainLength(d);
    }

    /** The greatest common divisor of p and q, for q above 0. */
    private static int commonDivisor(int p, int q) {
        int greater = q;
        int smaller = p < 0 ? -p : p;
        for (int step = 0; step < MOST_STEPS && smaller > 0; step++) {
            int rest = greater % smaller;
            greater = smaller;
            smaller = rest;
        }
        return greater;
    }

    private int chainLength(int r) {
        int p = tops[r];
        int q = bottoms[r];
        int length = 0;
        for (int step = 0; step < MOST_STEPS && q > 0; step++) {
            int rest = p - floor(p, q) * q;
            p = q;
            q = rest;
            length++;
        }
        return length;
    }

    /** The greatest whole number that is at most p / q, for q above 0: Java's own division cuts towards 0. */
    private static int floor(int p, int q) {
        int quotient = p / q;
        return quotient * q > p ? quotient - 1 : quotient;
    }

    private int order(int a, int b) {
        int left = tops[a] * bottoms[b];
        int right = tops[b] * bottoms[a];
        if (left == right) {
            return 0;
        }
        return left < right ? -1 : 1;
    }
}
