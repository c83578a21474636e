public final class Promise01NewObjectTest {
    public static void main(String[] args) {
        GosperFractions x = new GosperFractions();
        for (int r = 0; r < 4; r++) {
            Due.holds("new", x, r, 0, 1);
            Due.chain("new", x, r, 0);
        }
        GosperFractions y = new GosperFractions();
        y.set(0, 5, 7);
        Due.holds("another object's set", x, 0, 0, 1);
        Due.end();
    }
}
