import java.math.BigInteger;
import java.util.ArrayList;
import java.util.List;

/**
 * The document's meaning told another way than the class tells it, to compare with: sizes by a
 * closed formula, the index by the order of vectors, the packet as one great number.
 */
final class Model {
    private static final int NONE = -1000000;
    private static final BigInteger BYTE = BigInteger.valueOf(256);
    private static final int[] SYMBOL_SIZES = symbolSizes();

    private final int[] k;
    private final int[] coefs = new int[32];
    private final int[][] q = new int[2][4];
    private final int[][] pulses = new int[2][32];
    private final int[] decoded = new int[32];
    private final int[] vec = new int[8];
    private List<Integer> packet = new ArrayList<>();

    private BigInteger low;
    private long range;
    private int shifts;

    private int read;
    private long code;

    Model(int... counts) {
        k = new int[4];
        for (int b = 0; b < 4; b++) {
            k[b] = clamp(counts[b], 1, 16);
        }
    }

    static int clamp(int value, int lo, int hi) {
        return Math.max(lo, Math.min(hi, value));
    }

    private static int[] symbolSizes() {
        int[] sizes = new int[67];
        java.util.Arrays.fill(sizes, 1);
        int[] first = {32, 16, 16, 8, 8, 4, 4, 2, 2};
        System.arraycopy(first, 0, sizes, 0, first.length);
        return sizes;
    }

    private static long choose(int n, int k) {
        long c = 1;
        for (int i = 1; i <= k; i++) {
            c = c * (n - k + i) / i;
        }
        return k > n ? 0 : c;
    }

    /** Picks which i entries are not 0, their signs, and how the k pulses part among them. */
    static int size(int n, int k) {
        if (k == 0) {
            return 1;
        }
        long total = 0;
        for (int i = 1; i <= Math.min(n, k); i++) {
            total += (1L << i) * choose(n, i) * choose(k - 1, i - 1);
        }
        return (int) total;
    }

    /** The entries in the document's order: 0, 1, -1, 2, -2 and so on. */
    private static int entry(int rank) {
        return rank % 2 == 1 ? (rank + 1) / 2 : -rank / 2;
    }

    static int index(int[] y) {
        int left = 0;
        for (int value : y) {
            left += Math.abs(value);
        }
        int before = 0;
        for (int i = 0; i < y.length; i++) {
            for (int rank = 0; entry(rank) != y[i]; rank++) {
                before += size(y.length - i - 1, left - Math.abs(entry(rank)));
            }
            left -= Math.abs(y[i]);
        }
        return before;
    }

    static int[] unindex(int n, int k, int index) {
        int[] y = new int[n];
        int left = k;
        int rest = index;
        for (int i = 0; i < n; i++) {
            int rank = 0;
            while (rest >= size(n - i - 1, left - Math.abs(entry(rank)))) {
                rest -= size(n - i - 1, left - Math.abs(entry(rank)));
                rank++;
            }
            y[i] = entry(rank);
            left -= Math.abs(y[i]);
        }
        return y;
    }

    boolean setCoef(int pos, int value) {
        if (pos < 0 || pos > 31) {
            return false;
        }
        coefs[pos] = clamp(value, -32767, 32767);
        return true;
    }

    int coefAt(int pos) {
        return pos < 0 || pos > 31 ? NONE : coefs[pos];
    }

    int encodeFrame() {
        low = BigInteger.ZERO;
        range = 4294967295L;
        shifts = 0;
        for (int b = 0; b < 4; b++) {
            BigInteger energy = BigInteger.ZERO;
            for (int j = 0; j < 8; j++) {
                energy = energy.add(BigInteger.valueOf(coefs[8 * b + j]).pow(2));
            }
            int newQ = energy.bitLength();
            int r = newQ - (3 * q[0][b] + 2) / 4;
            codeEnergy(r >= 0 ? 2 * r : -2 * r - 1);
            int[] y = search(b);
            codeUniform(index(y), size(8, k[b]));
            q[0][b] = newQ;
            System.arraycopy(y, 0, pulses[0], 8 * b, 8);
        }
        packet = new ArrayList<>();
        int bytes = shifts + 5;
        for (int i = 0; i < bytes && i < 64; i++) {
            packet.add(low.shiftRight(8 * (bytes - 1 - i)).mod(BYTE).intValue());
        }
        return packet.size();
    }

    private void codeEnergy(int symbol) {
        int start = 0;
        for (int s = 0; s < symbol; s++) {
            start += SYMBOL_SIZES[s];
        }
        code(start, SYMBOL_SIZES[symbol], 150);
    }

    private void codeUniform(int x, int total) {
        if (total <= 65536) {
            code(x, 1, total);
            return;
        }
        int b = BigInteger.valueOf(total - 1).bitLength() - 16;
        code(x >> b, 1, ((total - 1) >> b) + 1);
        code(x % (1 << b), 1, 1 << b);
    }

    private void code(int start, int size, int total) {
        long r = range / total;
        low = low.add(BigInteger.valueOf(r * start));
        range = r * size;
        while (range < 16777216) {
            range *= 256;
            low = low.multiply(BYTE);
            shifts++;
        }
    }

    private int[] search(int band) {
        int[] y = new int[8];
        for (int placed = 0; placed < k[band]; placed++) {
            int best = -1;
            BigInteger bestNum = null;
            BigInteger bestDen = null;
            for (int j = 0; j < 8; j++) {
                y[j]++;
                long sum = 0;
                long squares = 0;
                for (int i = 0; i < 8; i++) {
                    sum += (long) y[i] * Math.abs(coefs[8 * band + i]);
                    squares += (long) y[i] * y[i];
                }
                y[j]--;
                BigInteger num = BigInteger.valueOf(sum).pow(2);
                BigInteger den = BigInteger.valueOf(squares);
                if (best < 0 || num.multiply(bestDen).compareTo(bestNum.multiply(den)) > 0) {
                    best = j;
                    bestNum = num;
                    bestDen = den;
                }
            }
            y[best]++;
        }
        for (int j = 0; j < 8; j++) {
            y[j] = coefs[8 * band + j] < 0 ? -y[j] : y[j];
        }
        return y;
    }

    int packetLength() {
        return packet.size();
    }

    int packetByte(int i) {
        return i < 0 || i >= packet.size() ? NONE : packet.get(i);
    }

    boolean putByte(int i, int value) {
        if (i < 0 || i >= 64 || i > packet.size()) {
            return false;
        }
        if (i == packet.size()) {
            packet.add(0);
        }
        packet.set(i, Math.floorMod(value, 256));
        return true;
    }

    void decodeFrame() {
        read = 0;
        range = 4294967295L;
        code = 0;
        for (int i = 0; i < 5; i++) {
            nextByte();
        }
        for (int b = 0; b < 4; b++) {
            int symbol = decodeEnergy();
            int r = symbol % 2 == 0 ? symbol / 2 : -((symbol + 1) / 2);
            q[1][b] = clamp((3 * q[1][b] + 2) / 4 + r, 0, 33);
            int[] y = unindex(8, k[b], decodeUniform(size(8, k[b])));
            System.arraycopy(y, 0, pulses[1], 8 * b, 8);
            scale(b, y);
        }
    }

    private void scale(int band, int[] y) {
        int squares = 0;
        for (int value : y) {
            squares += value * value;
        }
        for (int j = 0; j < 8; j++) {
            BigInteger share = BigInteger.ZERO;
            if (q[1][band] > 0) {
                share = BigInteger.TWO.pow(q[1][band] - 1)
                        .multiply(BigInteger.valueOf(y[j] * y[j])).divide(BigInteger.valueOf(squares));
            }
            decoded[8 * band + j] = Integer.signum(y[j]) * share.sqrt().intValue();
        }
    }

    private void nextByte() {
        int value = read < packet.size() ? packet.get(read) : 0;
        read++;
        code = ((code << 8) | value) & 4294967295L;
    }

    private int decodeEnergy() {
        int v = (int) Math.min(149, code / (range / 150));
        int symbol = 0;
        int start = 0;
        while (v >= start + SYMBOL_SIZES[symbol]) {
            start += SYMBOL_SIZES[symbol];
            symbol++;
        }
        take(start, SYMBOL_SIZES[symbol], 150);
        return symbol;
    }

    private int decodeUniform(int total) {
        if (total <= 65536) {
            return decodeEven(total);
        }
        int b = BigInteger.valueOf(total - 1).bitLength() - 16;
        int hi = decodeEven(((total - 1) >> b) + 1);
        int lo = decodeEven(1 << b);
        return Math.min(total - 1, hi * (1 << b) + lo);
    }

    private int decodeEven(int total) {
        int v = (int) Math.min(total - 1, code / (range / total));
        take(v, 1, total);
        return v;
    }

    private void take(int start, int size, int total) {
        long r = range / total;
        code -= r * start;
        range = r * size;
        while (range < 16777216) {
            range *= 256;
            nextByte();
        }
    }

    int energyQ(int side, int band) {
        return side < 0 || side > 1 || band < 0 || band > 3 ? NONE : q[side][band];
    }

    int pulse(int side, int pos) {
        return side < 0 || side > 1 || pos < 0 || pos > 31 ? NONE : pulses[side][pos];
    }

    int decodedCoef(int pos) {
        return pos < 0 || pos > 31 ? NONE : decoded[pos];
    }

    boolean setVec(int i, int value) {
        if (i < 0 || i > 7) {
            return false;
        }
        vec[i] = clamp(value, -16, 16);
        return true;
    }

    int vecAt(int i) {
        return i < 0 || i > 7 ? NONE : vec[i];
    }

    int vecIndex(int n) {
        if (n < 1 || n > 8) {
            return NONE;
        }
        int[] y = java.util.Arrays.copyOf(vec, n);
        int sum = 0;
        for (int value : y) {
            sum += Math.abs(value);
        }
        return sum > 16 ? NONE : index(y);
    }

    boolean vecUnindex(int n, int count, int idx) {
        if (n < 1 || n > 8 || count < 0 || count > 16 || idx < 0 || idx >= size(n, count)) {
            return false;
        }
        java.util.Arrays.fill(vec, 0);
        System.arraycopy(unindex(n, count, idx), 0, vec, 0, n);
        return true;
    }

    int pyramidSize(int n, int count) {
        return n < 0 || n > 8 || count < 0 || count > 16 ? NONE : size(n, count);
    }
}
