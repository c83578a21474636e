import java.util.function.IntSupplier;

/** "An object is used for at most 512 calls after it has been made": up to the 512th, every answer is the one due. */
public final class EdgeWhatItIsLastCallTest {
    private static final int CALLS = 512;

    public static void main(String[] args) {
        GosperFractions set = new GosperFractions();
        all("set(3, -9999, 9998)", 0, () -> set.set(3, -9999, 9998) ? 1 : 0, 1);
        GosperFractions top = Due.with(13, 11);
        all("top(0)", 1, () -> top.top(0), 13);
        GosperFractions bottom = Due.with(13, 11);
        all("bottom(0)", 1, () -> bottom.bottom(0), 11);
        GosperFractions terms = Due.with(4181, 6765);
        all("terms(0)", 1, () -> terms.terms(0), 19);
        GosperFractions term = Due.with(4181, 6765);
        all("term(0, 18)", 1, () -> term.term(0, 18), 2);
        GosperFractions apply = Due.with(13, 11, -22, 7);
        all("apply(ADD, 2, 0, 1)", 2, () -> apply.apply(GosperFractions.ADD, 2, 0, 1), 4);
        GosperFractions transform = Due.with(13, 11);
        all("transform(3, 0, 2001001003)", 1, () -> transform.transform(3, 0, 2001001003L), 4);
        GosperFractions compare = Due.with(13, 11, -22, 7);
        all("compare(0, 1)", 2, () -> compare.compare(0, 1), 1);
        GosperFractions between = Due.with(9999, 9998, 9998, 9997);
        all("between(2, 0, 1)", 2, () -> between.between(2, 0, 1), 9997);
        GosperFractions cut = Due.with(6765, 4181);
        all("cut(3, 0, 9)", 1, () -> cut.cut(3, 0, 9), 8);
        sumOfMany();
        manyRefusals();
        Due.end();
    }

    /** The same call from the made-th on up to the last one. */
    private static void all(String call, int made, IntSupplier answer, int want) {
        for (int i = made; i < CALLS; i++) {
            Due.is("call " + (i + 1) + ", " + call, answer.getAsInt(), want);
        }
    }

    private static void sumOfMany() {
        GosperFractions x = Due.with(1, 1);
        for (int i = 1; i < CALLS - 1; i++) {
            Due.is("call " + (i + 1) + ", apply(ADD, 1, 1, 0)", x.apply(GosperFractions.ADD, 1, 1, 0), 1);
        }
        Due.is("call 512, top(1)", x.top(1), CALLS - 2);
    }

    private static void manyRefusals() {
        GosperFractions x = Due.with(13, 11);
        for (int i = 1; i < CALLS - 1; i++) {
            Due.is("call " + (i + 1) + ", apply(DIV, 0, 0, 1)", x.apply(GosperFractions.DIV, 0, 0, 1), GosperFractions.NONE);
        }
        Due.is("call 512, top(0)", x.top(0), 13);
    }
}
