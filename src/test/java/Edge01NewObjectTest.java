/** "Every register holds 0 / 1." */
public final class Edge01NewObjectTest {
    public static void main(String[] args) {
        for (int r = 0; r < 4; r++) {
            GosperFractions x = new GosperFractions();
            Due.holds("new", x, r, 0, 1);
            Due.chain("new", x, r, 0);
            for (int other = 0; other < 4; other++) {
                Due.is("new: compare(" + r + ", " + other + ")", x.compare(r, other), 0);
                Due.is("new: apply(DIV, 0, " + other + ", " + r + ")", x.apply(GosperFractions.DIV, 0, other, r), GosperFractions.NONE);
            }
        }
        for (int r : Due.WRONG_REGISTERS) {
            GosperFractions x = new GosperFractions();
            Due.is("new: top(" + r + ")", x.top(r), GosperFractions.BAD);
            Due.is("new: bottom(" + r + ")", x.bottom(r), GosperFractions.BAD);
            Due.is("new: terms(" + r + ")", x.terms(r), GosperFractions.BAD);
            Due.is("new: term(" + r + ", 0)", x.term(r, 0), GosperFractions.BAD);
        }
        afterRefusals();
        whateverOthersHold();
        Due.end();
    }

    private static void afterRefusals() {
        GosperFractions x = new GosperFractions();
        Due.changesNothing("new: set(0, 10000, 1)", x, () -> x.set(0, 10000, 1) ? 1 : 0, 0);
        Due.changesNothing("new: set(0, 1, 0)", x, () -> x.set(0, 1, 0) ? 1 : 0, 0);
        Due.changesNothing("new: transform(0, 1, 1001001000)", x, () -> x.transform(0, 1, 1001001000L), GosperFractions.NONE);
        for (int r = 0; r < 4; r++) {
            Due.holds("new, after refusals", x, r, 0, 1);
        }
    }

    private static void whateverOthersHold() {
        GosperFractions before = new GosperFractions();
        GosperFractions filled = Due.filled();
        GosperFractions after = new GosperFractions();
        for (int r = 0; r < 4; r++) {
            Due.holds("made before another is filled", before, r, 0, 1);
            Due.holds("made after another is filled", after, r, 0, 1);
        }
        Due.holds("filled before another is made", filled, 0, 13, 11);
    }
}
