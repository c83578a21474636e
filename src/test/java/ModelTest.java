import java.math.BigInteger;
import java.util.ArrayList;
import java.util.List;

/** Long runs of calls, each held against fractions of BigInteger that know nothing of the class's ways. */
public final class ModelTest {
    private static final int RUNS = 6000;
    /** A step makes one call and looks at four registers with four calls each: 510 calls, of the 512 an object has. */
    private static final int STEPS = 30;
    private static final BigInteger GREATEST = BigInteger.valueOf(9999);
    private static final int BAD = GosperFractions.BAD;
    private static final int NONE = GosperFractions.NONE;
    private static final int TOO_BIG = GosperFractions.TOO_BIG;

    private static long seed = 20261115L;
    private static final BigInteger[] TOPS = new BigInteger[4];
    private static final BigInteger[] BOTTOMS = new BigInteger[4];
    private static GosperFractions x;

    public static void main(String[] args) {
        for (int run = 0; run < RUNS; run++) {
            x = new GosperFractions();
            for (int r = 0; r < 4; r++) {
                TOPS[r] = BigInteger.ZERO;
                BOTTOMS[r] = BigInteger.ONE;
            }
            for (int step = 0; step < STEPS; step++) {
                step("run " + run + ", step " + step + ": ");
            }
        }
        Due.end();
    }

    private static void step(String where) {
        int d = register();
        int a = register();
        int b = register();
        switch (below(10)) {
            case 0: case 1: case 2: case 3:
                set(where, d);
                break;
            case 4: case 5:
                int op = below(20) == 0 ? below(9) - 4 : below(4);
                Due.is(where + "apply(" + op + ", " + d + ", " + a + ", " + b + ")", x.apply(op, d, a, b), apply(op, d, a, b));
                break;
            case 6:
                long packed = packed();
                Due.is(where + "transform(" + d + ", " + a + ", " + packed + ")", x.transform(d, a, packed), transform(d, a, packed));
                break;
            case 7:
                Due.is(where + "compare(" + a + ", " + b + ")", x.compare(a, b), good(a) && good(b) ? order(a, b) : BAD);
                break;
            case 8:
                Due.is(where + "between(" + d + ", " + a + ", " + b + ")", x.between(d, a, b), between(d, a, b));
                break;
            default:
                int count = below(8) - 1;
                Due.is(where + "cut(" + d + ", " + a + ", " + count + ")", x.cut(d, a, count), cut(d, a, count));
                break;
        }
        for (int r = 0; r < 4; r++) {
            look(where, r);
        }
    }

    private static void look(String where, int r) {
        Due.is(where + "top(" + r + ")", x.top(r), TOPS[r].longValueExact());
        Due.is(where + "bottom(" + r + ")", x.bottom(r), BOTTOMS[r].longValueExact());
        List<BigInteger> chain = chain(r);
        Due.is(where + "terms(" + r + ")", x.terms(r), chain.size());
        int i = below(chain.size() + 2) - 1;
        int term = i < 0 || i >= chain.size() ? NONE : chain.get(i).intValueExact();
        Due.is(where + "term(" + r + ", " + i + ")", x.term(r, i), term);
    }

    private static void set(String where, int r) {
        int p = part();
        int q = below(30) == 0 ? -below(2) : Math.abs(part());
        boolean taken = good(r) && Math.abs(p) <= 9999 && q >= 1 && q <= 9999;
        Due.is(where + "set(" + r + ", " + p + ", " + q + ")", x.set(r, p, q), taken);
        if (taken) {
            keep(r, BigInteger.valueOf(p), BigInteger.valueOf(q));
        }
    }

    private static int apply(int op, int d, int a, int b) {
        if (op < 0 || op > 3 || !good(d) || !good(a) || !good(b)) {
            return BAD;
        }
        BigInteger left = TOPS[a].multiply(BOTTOMS[b]);
        BigInteger right = TOPS[b].multiply(BOTTOMS[a]);
        BigInteger bottom = BOTTOMS[a].multiply(BOTTOMS[b]);
        switch (op) {
            case 0:
                return keep(d, left.add(right), bottom);
            case 1:
                return keep(d, left.subtract(right), bottom);
            case 2:
                return keep(d, TOPS[a].multiply(TOPS[b]), bottom);
            default:
                return TOPS[b].signum() == 0 ? NONE : keep(d, left, right);
        }
    }

    private static int transform(int d, int a, long packed) {
        if (!good(d) || !good(a)) {
            return BAD;
        }
        BigInteger thousand = BigInteger.valueOf(1000);
        BigInteger[] coefficients = new BigInteger[4];
        BigInteger rest = BigInteger.valueOf(packed);
        for (int i = 3; i >= 0; i--) {
            BigInteger[] parts = rest.divideAndRemainder(thousand);
            coefficients[i] = i == 0 ? rest : parts[1];
            rest = parts[0];
            if (coefficients[i].signum() < 0 || coefficients[i].compareTo(BigInteger.valueOf(99)) > 0) {
                return BAD;
            }
        }
        BigInteger top = coefficients[0].multiply(TOPS[a]).add(coefficients[1].multiply(BOTTOMS[a]));
        BigInteger bottom = coefficients[2].multiply(TOPS[a]).add(coefficients[3].multiply(BOTTOMS[a]));
        return bottom.signum() == 0 ? NONE : keep(d, top, bottom);
    }

    /** Down the two ends' chains together, as far as they agree; the class itself counts denominators. */
    private static int between(int d, int a, int b) {
        if (!good(d) || !good(a) || !good(b)) {
            return BAD;
        }
        boolean rising = order(a, b) <= 0;
        BigInteger p = TOPS[rising ? a : b];
        BigInteger q = BOTTOMS[rising ? a : b];
        BigInteger s = TOPS[rising ? b : a];
        BigInteger t = BOTTOMS[rising ? b : a];
        List<BigInteger> chain = new ArrayList<>();
        while (true) {
            BigInteger ceiling = floor(p.negate(), q).negate();
            if (ceiling.multiply(t).compareTo(s) <= 0) {
                chain.add(ceiling);
                break;
            }
            BigInteger whole = floor(p, q);
            chain.add(whole);
            BigInteger lowRest = p.subtract(whole.multiply(q));
            BigInteger highRest = s.subtract(whole.multiply(t));
            p = t;
            s = q;
            q = highRest;
            t = lowRest;
        }
        keepChain(d, chain);
        return BOTTOMS[d].intValueExact();
    }

    private static int cut(int d, int a, int count) {
        if (!good(d) || !good(a) || count < 1) {
            return BAD;
        }
        List<BigInteger> chain = chain(a);
        return keepChain(d, chain.subList(0, Math.min(count, chain.size())));
    }

    /** From the last term back, as the document says the value. */
    private static int keepChain(int d, List<BigInteger> chain) {
        BigInteger top = chain.get(chain.size() - 1);
        BigInteger bottom = BigInteger.ONE;
        for (int i = chain.size() - 2; i >= 0; i--) {
            BigInteger next = chain.get(i).multiply(top).add(bottom);
            bottom = top;
            top = next;
        }
        return keep(d, top, bottom);
    }

    private static int keep(int d, BigInteger top, BigInteger bottom) {
        BigInteger divisor = top.gcd(bottom);
        if (bottom.signum() < 0) {
            divisor = divisor.negate();
        }
        BigInteger p = top.divide(divisor);
        BigInteger q = bottom.divide(divisor);
        if (p.abs().compareTo(GREATEST) > 0 || q.compareTo(GREATEST) > 0) {
            return TOO_BIG;
        }
        TOPS[d] = p;
        BOTTOMS[d] = q;
        return chain(d).size();
    }

    private static List<BigInteger> chain(int r) {
        List<BigInteger> chain = new ArrayList<>();
        BigInteger p = TOPS[r];
        BigInteger q = BOTTOMS[r];
        while (q.signum() > 0) {
            BigInteger whole = floor(p, q);
            chain.add(whole);
            BigInteger rest = p.subtract(whole.multiply(q));
            p = q;
            q = rest;
        }
        return chain;
    }

    private static BigInteger floor(BigInteger p, BigInteger q) {
        return p.subtract(p.mod(q)).divide(q);
    }

    private static int order(int a, int b) {
        return TOPS[a].multiply(BOTTOMS[b]).compareTo(TOPS[b].multiply(BOTTOMS[a]));
    }

    private static boolean good(int r) {
        return r >= 0 && r <= 3;
    }

    private static int register() {
        return below(40) == 0 ? below(7) - 2 : below(4);
    }

    /** Mostly small, often near the greatest, at times past it. */
    private static int part() {
        int sign = below(2) == 0 ? -1 : 1;
        switch (below(4)) {
            case 0:
                return sign * below(12);
            case 1:
                return sign * below(120);
            case 2:
                return sign * (9990 + below(11));
            default:
                return sign * below(10000);
        }
    }

    private static long packed() {
        long packed = 0;
        for (int i = 0; i < 4; i++) {
            int coefficient = below(3) == 0 ? below(3) : below(100);
            packed = 1000 * packed + (below(60) == 0 ? 100 * (below(5) - 2) : coefficient);
        }
        return packed;
    }

    /** The same numbers in every run of the test. */
    private static int below(int bound) {
        seed = seed * 6364136223846793005L + 1442695040888963407L;
        return (int) ((seed >>> 33) % bound);
    }
}
