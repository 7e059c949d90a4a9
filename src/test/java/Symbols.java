/** The document's energy symbol table in its own numbers, its zigzag and its prediction. */
final class Symbols {
    private static final int[] FREQ = {32, 16, 16, 8, 8, 4, 4, 2, 2};
    private static final int[] START = {0, 32, 48, 64, 72, 80, 84, 88, 90};

    private Symbols() {}

    static int freq(int s) {
        return s <= 8 ? FREQ[s] : 1;
    }

    static int start(int s) {
        return s <= 8 ? START[s] : 92 + (s - 9);
    }

    static int zigzag(int r) {
        return r >= 0 ? 2 * r : -2 * r - 1;
    }

    static int back(int s) {
        return s % 2 == 0 ? s / 2 : -((s + 1) / 2);
    }

    static int predict(int q) {
        return (int) Math.floor((3 * q + 2) / 4.0);
    }
}
