import java.util.ArrayList;
import java.util.List;

/** The document's range decoder, step by step as its words go, with a record of what its comparisons saw. */
final class SpelledDecoder {
    /** v of each decode, before it is held to total-1. */
    final List<Long> values = new ArrayList<>();
    /** range after each decode, before it is compared with 16777216. */
    final List<Long> ranges = new ArrayList<>();
    /** x of each uniform value in two parts, before it is held to T-1. */
    final List<Integer> parted = new ArrayList<>();
    /** The energy symbol and the index of each band. */
    final int[] symbols = new int[4];
    final int[] indices = new int[4];
    int position = 0;

    private final int[] bytes;
    private long range = 4294967295L;
    private long code = 0;

    SpelledDecoder(int[] k, int... bytes) {
        this.bytes = bytes;
        for (int i = 0; i < 5; i++) {
            code = (code * 256 + nextByte()) % 4294967296L;
        }
        for (int b = 0; b < 4; b++) {
            symbols[b] = energy();
            indices[b] = uniform(Model.size(8, k[b]));
        }
    }

    private int nextByte() {
        int value = position < bytes.length ? bytes[position] : 0;
        position++;
        return value;
    }

    private int choose(int total) {
        long v = code / (range / total);
        values.add(v);
        return (int) (v > total - 1 ? total - 1 : v);
    }

    private void take(int start, int size, int total) {
        long r = range / total;
        code = code - r * start;
        range = r * size;
        ranges.add(range);
        while (range < 16777216L) {
            range = range * 256;
            code = (code * 256 + nextByte()) % 4294967296L;
        }
    }

    private int energy() {
        int v = choose(150);
        for (int s = 0; s <= 66; s++) {
            if (Symbols.start(s) <= v && v < Symbols.start(s) + Symbols.freq(s)) {
                take(Symbols.start(s), Symbols.freq(s), 150);
                return s;
            }
        }
        throw new IllegalStateException("no symbol for " + v);
    }

    private int even(int total) {
        int v = choose(total);
        take(v, 1, total);
        return v;
    }

    private int uniform(int t) {
        if (t <= 65536) {
            return even(t);
        }
        int m = t - 1;
        int b = Integer.toBinaryString(m).length() - 16;
        int hi = even((m >> b) + 1);
        int lo = even(1 << b);
        int x = hi * (1 << b) + lo;
        parted.add(x);
        return x > t - 1 ? t - 1 : x;
    }
}
