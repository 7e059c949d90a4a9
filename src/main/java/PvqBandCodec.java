/**
 * Codes and decodes frames of 32 spectral coefficients by four bands of pulse vectors.
 *
 * <p>Both sides keep their state in shared arrays, the encoder's part before the decoder's, so that
 * a side is only an offset.
 */
public final class PvqBandCodec {
    public static final int NONE = -1000000;
    public static final int BANDS = 4;
    public static final int BAND_WIDTH = 8;
    public static final int COEFS = 32;
    public static final int PACKET_CAP = 64;
    public static final int MAX_N = 8;
    public static final int MAX_K = 16;
    public static final int COEF_LIMIT = 32767;
    public static final int Q_MAX = 33;
    public static final int ENERGY_TOTAL = 150;
    public static final int ENCODER = 0;
    public static final int DECODER = 1;

    private static final int SIDE_BANDS = 2 * BANDS;
    private static final int SIDE_COEFS = 2 * COEFS;
    private static final int SIZE_ROW = MAX_K + 1;
    private static final int SIZE_CELLS = (MAX_N + 1) * SIZE_ROW;
    private static final int LAST_ENERGY_SYMBOL = 2 * Q_MAX;
    private static final int LAST_HALVED_SYMBOL = 8;

    private static final long FULL_RANGE = 4294967295L;
    private static final long LOW_LIMIT = 4294967296L;
    private static final long CARRY_UNSURE = 4278190080L;
    private static final long RANGE_FLOOR = 16777216L;
    private static final int START_BYTES = 5;
    private static final int UNIFORM_BITS = 16;
    private static final int UNIFORM_LIMIT = 1 << UNIFORM_BITS;

    // Three shifts by a byte lift even a range of 1 to the floor; the bound only makes the end plain.
    private static final int MAX_RANGE_SHIFTS = 64;
    private static final int LONG_BITS = 63;
    // 2^(Q_MAX-1) times a squared pulse is at most 2^40, so no root passes 2^20.
    private static final int TOP_ROOT_BIT = 20;

    private final int[] pulseCounts = new int[BANDS];
    private final int[] coefs = new int[COEFS];
    private final int[] energies = new int[SIDE_BANDS];
    private final int[] pulses = new int[SIDE_COEFS];
    private final int[] decoded = new int[COEFS];
    private final int[] vec = new int[MAX_N];
    private final int[] sizes = new int[SIZE_CELLS];

    private final int[] packet = new int[PACKET_CAP];
    private int length = 0;

    private long low = 0;
    private long encoderRange = FULL_RANGE;
    private int cache = 0;
    private int pending = 1;

    private int readPosition = 0;
    private long decoderRange = FULL_RANGE;
    private long code = 0;
    private long decoderStep = 0;

    public PvqBandCodec(int k0, int k1, int k2, int k3) {
        pulseCounts[0] = clamp(k0, 1, MAX_K);
        pulseCounts[1] = clamp(k1, 1, MAX_K);
        pulseCounts[2] = clamp(k2, 1, MAX_K);
        pulseCounts[3] = clamp(k3, 1, MAX_K);
        fillSizes();
    }

    public boolean setCoef(int pos, int value) {
        if (pos < 0 || pos >= COEFS) {
            return false;
        }
        coefs[pos] = clamp(value, -COEF_LIMIT, COEF_LIMIT);
        return true;
    }

    public int coefAt(int pos) {
        if (pos < 0 || pos >= COEFS) {
            return NONE;
        }
        return coefs[pos];
    }

    public int encodeFrame() {
        startEncoder();
        for (int band = 0; band < BANDS; band++) {
            long energy = bandEnergy(band);
            int q = bitLength(energy);
            int predicted = predict(energies[ENCODER * BANDS + band]);
            codeEnergy(q - predicted);
            searchPulses(band);
            codePulses(band);
            energies[ENCODER * BANDS + band] = q;
        }
        flush();
        return length;
    }

    public int packetLength() {
        return length;
    }

    public int packetByte(int i) {
        if (i < 0 || i >= PACKET_CAP || i >= length) {
            return NONE;
        }
        return packet[i];
    }

    public boolean putByte(int i, int value) {
        if (i < 0 || i >= PACKET_CAP || i > length) {
            return false;
        }
        packet[i] = value & 255;
        if (i == length) {
            length++;
        }
        return true;
    }

    public void decodeFrame() {
        startDecoder();
        for (int band = 0; band < BANDS; band++) {
            int predicted = predict(energies[DECODER * BANDS + band]);
            int residual = decodeEnergy();
            int q = clamp(predicted + residual, 0, Q_MAX);
            decodePulses(band);
            energies[DECODER * BANDS + band] = q;
            scaleBand(band, q);
        }
    }

    public int energyQ(int side, int band) {
        if (side != ENCODER && side != DECODER) {
            return NONE;
        }
        if (band < 0 || band >= BANDS) {
            return NONE;
        }
        return energies[side * BANDS + band];
    }

    public int pulse(int side, int pos) {
        if (side != ENCODER && side != DECODER) {
            return NONE;
        }
        if (pos < 0 || pos >= COEFS) {
            return NONE;
        }
        return pulses[side * COEFS + pos];
    }

    public int decodedCoef(int pos) {
        if (pos < 0 || pos >= COEFS) {
            return NONE;
        }
        return decoded[pos];
    }

    public boolean setVec(int i, int value) {
        if (i < 0 || i >= MAX_N) {
            return false;
        }
        vec[i] = clamp(value, -MAX_K, MAX_K);
        return true;
    }

    public int vecAt(int i) {
        if (i < 0 || i >= MAX_N) {
            return NONE;
        }
        return vec[i];
    }

    public int vecIndex(int n) {
        if (n < 1 || n > MAX_N) {
            return NONE;
        }
        int k = 0;
        for (int i = 0; i < n; i++) {
            k += magnitude(vec[i]);
        }
        if (k > MAX_K) {
            return NONE;
        }
        return indexOf(vec, 0, n, k);
    }

    public boolean vecUnindex(int n, int k, int idx) {
        if (n < 1 || n > MAX_N) {
            return false;
        }
        if (k < 0 || k > MAX_K) {
            return false;
        }
        if (idx < 0 || idx >= sizeOf(n, k)) {
            return false;
        }
        unindex(vec, 0, n, k, idx);
        for (int i = n; i < MAX_N; i++) {
            vec[i] = 0;
        }
        return true;
    }

    public int pyramidSize(int n, int k) {
        if (n < 0 || n > MAX_N || k < 0 || k > MAX_K) {
            return NONE;
        }
        return sizeOf(n, k);
    }

    private static int clamp(int value, int lo, int hi) {
        if (value < lo) {
            return lo;
        }
        return value > hi ? hi : value;
    }

    private static int magnitude(int value) {
        return value < 0 ? -value : value;
    }

    private static int bitLength(long m) {
        int bits = 0;
        while (bits < LONG_BITS && (m >> bits) > 0) {
            bits++;
        }
        return bits;
    }

    private static int squareRoot(long m) {
        long root = 0;
        for (int bit = TOP_ROOT_BIT; bit >= 0; bit--) {
            long tried = root + (1L << bit);
            if (tried * tried <= m) {
                root = tried;
            }
        }
        return (int) root;
    }

    /** Looks at the divisor, so that no state whatever can make a division throw. */
    private static long quotient(long value, long divisor) {
        return divisor < 1 ? 0 : value / divisor;
    }

    private static int predict(int q) {
        return (3 * q + 2) / 4;
    }

    // The pyramid

    private void fillSizes() {
        sizes[0] = 1;
        for (int n = 1; n <= MAX_N; n++) {
            int shorter = 0;
            for (int k = 0; k <= MAX_K; k++) {
                int same = sizes[(n - 1) * SIZE_ROW + k];
                sizes[n * SIZE_ROW + k] = same + 2 * shorter;
                shorter += same;
            }
        }
    }

    /** A pyramid outside the table counts as empty. */
    private int sizeOf(int n, int k) {
        if (n < 0 || n > MAX_N || k < 0 || k > MAX_K) {
            return 0;
        }
        return sizes[n * SIZE_ROW + k];
    }

    /** How many vectors of n entries and k pulses have a first entry of magnitude m. */
    private int countWithFirst(int m, int n, int k) {
        int rests = sizeOf(n - 1, k - m);
        return m == 0 ? rests : 2 * rests;
    }

    private int indexOf(int[] cells, int from, int n, int k) {
        int index = 0;
        int left = k;
        for (int i = 0; i < n; i++) {
            int value = cells[from + i];
            int size = magnitude(value);
            for (int m = 0; m < size; m++) {
                index += countWithFirst(m, n - i, left);
            }
            left -= size;
            if (value < 0) {
                index += sizeOf(n - i - 1, left);
            }
        }
        return index;
    }

    private void unindex(int[] cells, int from, int n, int k, int index) {
        int rest = index;
        int left = k;
        for (int i = 0; i < n; i++) {
            int m = 0;
            int count = countWithFirst(0, n - i, left);
            while (m < left && rest >= count) {
                rest -= count;
                m++;
                count = countWithFirst(m, n - i, left);
            }
            left -= m;
            int positives = sizeOf(n - i - 1, left);
            boolean negative = m > 0 && rest >= positives;
            if (negative) {
                rest -= positives;
            }
            cells[from + i] = negative ? -m : m;
        }
    }

    // The encoder's analysis

    private long bandEnergy(int band) {
        long energy = 0;
        for (int j = 0; j < BAND_WIDTH; j++) {
            long x = coefs[band * BAND_WIDTH + j];
            energy += x * x;
        }
        return energy;
    }

    private void searchPulses(int band) {
        int from = band * BAND_WIDTH;
        for (int j = 0; j < BAND_WIDTH; j++) {
            pulses[from + j] = 0;
        }
        long correlation = 0;
        long squares = 0;
        for (int placed = 0; placed < pulseCounts[band]; placed++) {
            int chosen = bestPosition(from, correlation, squares);
            correlation += magnitude(coefs[chosen]);
            squares += 2 * pulses[chosen] + 1;
            pulses[chosen]++;
        }
        for (int j = 0; j < BAND_WIDTH; j++) {
            if (coefs[from + j] < 0) {
                pulses[from + j] = -pulses[from + j];
            }
        }
    }

    /** Compares the ratios by cross products, since their quotients would not be whole. */
    private int bestPosition(int from, long correlation, long squares) {
        int chosen = from;
        long chosenNum = 0;
        long chosenDen = 1;
        for (int pos = from; pos < from + BAND_WIDTH; pos++) {
            long sum = correlation + magnitude(coefs[pos]);
            long num = sum * sum;
            long den = squares + 2 * pulses[pos] + 1;
            if (pos == from || num * chosenDen > chosenNum * den) {
                chosen = pos;
                chosenNum = num;
                chosenDen = den;
            }
        }
        return chosen;
    }

    // The energy symbols

    private static int symbolSize(int symbol) {
        return symbol <= LAST_HALVED_SYMBOL ? 32 >> ((symbol + 1) / 2) : 1;
    }

    private void codeEnergy(int residual) {
        int symbol = residual >= 0 ? 2 * residual : -2 * residual - 1;
        int start = 0;
        for (int s = 0; s < symbol; s++) {
            start += symbolSize(s);
        }
        int size = symbolSize(symbol);
        codeSymbol(start, size, ENERGY_TOTAL);
    }

    private int decodeEnergy() {
        int value = decodeValue(ENERGY_TOTAL);
        int symbol = 0;
        int start = 0;
        int size = symbolSize(0);
        while (symbol < LAST_ENERGY_SYMBOL && value >= start + size) {
            start += size;
            symbol++;
            size = symbolSize(symbol);
        }
        consume(start, size);
        return symbol % 2 == 0 ? symbol / 2 : -(symbol + 1) / 2;
    }

    // The uniform values

    /** How many low bits of a value below total are coded apart from its high ones. */
    private static int lowBits(int total) {
        if (total <= UNIFORM_LIMIT) {
            return 0;
        }
        int bits = bitLength(total - 1);
        return bits - UNIFORM_BITS;
    }

    private void codePulses(int band) {
        int k = pulseCounts[band];
        int index = indexOf(pulses, ENCODER * COEFS + band * BAND_WIDTH, BAND_WIDTH, k);
        int total = sizeOf(BAND_WIDTH, k);
        int apart = lowBits(total);
        if (apart == 0) {
            codeSymbol(index, 1, total);
        } else {
            codeSymbol(index >> apart, 1, ((total - 1) >> apart) + 1);
            codeSymbol(index & ((1 << apart) - 1), 1, 1 << apart);
        }
    }

    private void decodePulses(int band) {
        int k = pulseCounts[band];
        int total = sizeOf(BAND_WIDTH, k);
        int apart = lowBits(total);
        int index = decodeUniform(((total - 1) >> apart) + 1);
        if (apart > 0) {
            int lowPart = decodeUniform(1 << apart);
            index = clamp((index << apart) + lowPart, 0, total - 1);
        }
        unindex(pulses, DECODER * COEFS + band * BAND_WIDTH, BAND_WIDTH, k, index);
    }

    private int decodeUniform(int total) {
        int value = decodeValue(total);
        consume(value, 1);
        return value;
    }

    // The decoder's spectrum

    private void scaleBand(int band, int q) {
        int from = band * BAND_WIDTH;
        long squares = 0;
        for (int j = 0; j < BAND_WIDTH; j++) {
            long y = pulses[DECODER * COEFS + from + j];
            squares += y * y;
        }
        for (int j = 0; j < BAND_WIDTH; j++) {
            int y = pulses[DECODER * COEFS + from + j];
            decoded[from + j] = scaledPulse(y, q, squares);
        }
    }

    private static int scaledPulse(int y, int q, long squares) {
        if (q == 0 || y == 0) {
            return 0;
        }
        long power = (1L << (q - 1)) * y * y;
        long share = quotient(power, squares);
        int root = squareRoot(share);
        return y < 0 ? -root : root;
    }

    // The range encoder

    private void startEncoder() {
        low = 0;
        encoderRange = FULL_RANGE;
        cache = 0;
        pending = 1;
        length = 0;
        for (int i = 0; i < PACKET_CAP; i++) {
            packet[i] = 0;
        }
    }

    private void codeSymbol(int start, int size, int total) {
        long step = quotient(encoderRange, total);
        low += step * start;
        encoderRange = step * size;
        for (int i = 0; i < MAX_RANGE_SHIFTS && encoderRange < RANGE_FLOOR; i++) {
            encoderRange *= 256;
            shiftLow();
        }
    }

    /** Bytes that a later carry could still change wait in cache and pending. */
    private void shiftLow() {
        if (low < CARRY_UNSURE || low >= LOW_LIMIT) {
            int carry = (int) (low / LOW_LIMIT);
            emit((cache + carry) % 256);
            for (int i = 1; i < pending; i++) {
                emit((255 + carry) % 256);
            }
            cache = (int) (low / RANGE_FLOOR % 256);
            pending = 0;
        }
        pending++;
        low = low % RANGE_FLOOR * 256;
    }

    private void emit(int value) {
        if (length >= 0 && length < PACKET_CAP) {
            packet[length] = value;
            length++;
        }
    }

    private void flush() {
        for (int i = 0; i < START_BYTES; i++) {
            shiftLow();
        }
    }

    // The range decoder

    private void startDecoder() {
        readPosition = 0;
        decoderRange = FULL_RANGE;
        code = 0;
        for (int i = 0; i < START_BYTES; i++) {
            takeByte();
        }
    }

    private void takeByte() {
        int value = 0;
        if (readPosition >= 0 && readPosition < PACKET_CAP && readPosition < length) {
            value = packet[readPosition];
        }
        readPosition++;
        code = (code * 256 + value) % LOW_LIMIT;
    }

    /** The step is kept, since consume needs the one that chose the symbol. */
    private int decodeValue(int total) {
        decoderStep = quotient(decoderRange, total);
        long value = quotient(code, decoderStep);
        return (int) (value > total - 1 ? total - 1 : value);
    }

    private void consume(int start, int size) {
        code -= decoderStep * start;
        decoderRange = decoderStep * size;
        for (int i = 0; i < MAX_RANGE_SHIFTS && decoderRange < RANGE_FLOOR; i++) {
            decoderRange *= 256;
            takeByte();
        }
    }
}
