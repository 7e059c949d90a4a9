import java.util.ArrayList;
import java.util.List;

/**
 * The document's range encoder, step by step as its words go, with a record of what its comparisons
 * saw: so a test can show that its frame stands on the limit it is about.
 */
final class SpelledEncoder {
    /** low at each shiftLow. */
    final List<Long> lows = new ArrayList<>();
    /** range after each code, before it is compared with 16777216. */
    final List<Long> ranges = new ArrayList<>();
    /** The total of each code. */
    final List<Integer> totals = new ArrayList<>();
    /** At each shiftLow that emits: 1000 * pending + c. */
    final List<Integer> emissions = new ArrayList<>();
    /** The greatest cache + c that was emitted. */
    long greatestByte = 0;

    private final List<Integer> bytes = new ArrayList<>();
    private long low = 0;
    private long range = 4294967295L;
    private long cache = 0;
    private int pending = 1;

    void code(long start, long size, int total) {
        long r = range / total;
        low = low + r * start;
        range = r * size;
        ranges.add(range);
        totals.add(total);
        while (range < 16777216L) {
            range = range * 256;
            shiftLow();
        }
    }

    void shiftLow() {
        lows.add(low);
        if (low < 4278190080L || low >= 4294967296L) {
            long c = low / 4294967296L;
            emissions.add((int) (1000 * pending + c));
            greatestByte = Math.max(greatestByte, cache + c);
            emit((cache + c) % 256);
            for (int i = 0; i < pending - 1; i++) {
                emit((255 + c) % 256);
            }
            cache = low / 16777216L % 256;
            pending = 0;
        }
        pending = pending + 1;
        low = low % 16777216L * 256;
    }

    private void emit(long x) {
        if (bytes.size() < 64) {
            bytes.add((int) x);
        }
    }

    void energy(int s) {
        code(Symbols.start(s), Symbols.freq(s), 150);
    }

    void uniform(int x, int t) {
        if (t <= 65536) {
            code(x, 1, t);
            return;
        }
        int m = t - 1;
        int b = Integer.toBinaryString(m).length() - 16;
        code(x >> b, 1, (m >> b) + 1);
        code(x % (1 << b), 1, 1 << b);
    }

    int[] flush() {
        for (int i = 0; i < 5; i++) {
            shiftLow();
        }
        return bytes.stream().mapToInt(Integer::intValue).toArray();
    }

    /** The packet of a frame of any four energy symbols and any four indices. */
    static int[] packet(int[] k, int[] symbols, int[] indices) {
        SpelledEncoder e = new SpelledEncoder();
        for (int b = 0; b < 4; b++) {
            e.energy(symbols[b]);
            e.uniform(indices[b], Model.size(8, k[b]));
        }
        return e.flush();
    }
}
