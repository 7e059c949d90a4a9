/** The boundary sentences of 'Range decoder', with packets made so that a value stands on its limit. */
public final class RangeDecoderBoundaryTest {
    private static final Check CHECK = new Check();
    private static final long ENERGY_STEP = 4294967295L / 150;

    private RangeDecoderBoundaryTest() {}

    public static void main(String[] args) {
        readsUpToTheLength();
        readsZerosFarBeyondTheLength();
        readsNoOldBytes();
        losesTheFirstByte();
        normalisesBelowTheLimitAlone();
        holdsAnEnergyValue();
        holdsAWholeIndex();
        holdsAHighAndALowPart();
        partsTotalsAbove65536();
        holdsTheIndexOfTwoParts();
        decodesTheEndsOfEveryTotal();
        CHECK.finish();
    }

    private static void nextByteSentence() {
        CHECK.sentence("nextByte: the packet cell at the read position if that position is below the packet length,"
                + " else 0; the read position then grows by 1.");
    }

    /**
     * An encoder's packet stands at the very start of what its last symbol has, so the last byte that
     * is not 0 decides: read, it brings the frame back; taken for 0, it brings another one.
     */
    private static void readsUpToTheLength() {
        nextByteSentence();
        boolean[] ends = new boolean[21];
        for (int seed = 0; seed < 3000; seed++) {
            Numbers numbers = new Numbers(seed);
            int[] k = new int[4];
            int[] symbols = new int[4];
            int[] indices = new int[4];
            for (int b = 0; b < 4; b++) {
                k[b] = seed % 2 == 0 ? numbers.between(15, 16) : numbers.between(1, 16);
                symbols[b] = numbers.between(seed % 2 == 0 ? 9 : 0, 66);
                indices[b] = numbers.below(Model.size(8, k[b]));
            }
            int[] bytes = SpelledEncoder.packet(k, symbols, indices);
            int length = bytes.length;
            while (bytes[length - 1] == 0) {
                length--;
            }
            ends[length] = true;
            PvqBandCodec whole = Frames.holding(k, java.util.Arrays.copyOf(bytes, length));
            SpelledDecoder found = Frames.decode(CHECK, "up to byte " + length, whole, k);
            boolean same = java.util.Arrays.equals(found.symbols, symbols)
                    && java.util.Arrays.equals(found.indices, indices);
            CHECK.due("the frame is found from " + length + " bytes", same, true);
            PvqBandCodec cut = Frames.holding(k, java.util.Arrays.copyOf(bytes, length - 1));
            Frames.decode(CHECK, "without byte " + (length - 1), cut, k);
            CHECK.due("another frame from " + (length - 1) + " bytes",
                    State.side(cut, 1).equals(State.side(whole, 1)), false);
        }
        for (int length = 10; length <= 18; length++) {
            CHECK.due("a packet ended at " + length, ends[length], true);
        }
    }

    /** The read position never comes to 64: no frame reads more than 20 bytes (RangeReachTest). */
    private static void readsZerosFarBeyondTheLength() {
        nextByteSentence();
        int[] k = {16, 16, 16, 16};
        PvqBandCodec empty = Frames.codec(k);
        SpelledDecoder d = Frames.decode(CHECK, "empty", empty, k);
        CHECK.due("reads of an empty packet", d.position >= 5, true);
        int most = 0;
        for (int length = 0; length <= 64; length++) {
            int[] bytes = new int[length];
            java.util.Arrays.fill(bytes, 254);
            PvqBandCodec plain = Frames.holding(k, bytes);
            PvqBandCodec padded = Frames.holding(k, java.util.Arrays.copyOf(bytes, 64));
            most = Math.max(most, Frames.decode(CHECK, "length " + length, plain, k).position);
            padded.decodeFrame();
            CHECK.due("length " + length, State.decoder(plain), State.decoder(padded));
        }
        CHECK.due("the most bytes read", most, 20);
    }

    /**
     * A full packet, then a shorter one over it. That one is read to its end and no further; but when
     * it is edited into the start of a longer one, the decoder reads on, and the old bytes must not
     * come back.
     */
    private static void readsNoOldBytes() {
        nextByteSentence();
        int differing = 0;
        for (int seed = 0; seed < 1600; seed++) {
            Numbers numbers = new Numbers(seed);
            int count = 1 + seed % 16;
            int[] k = {count, count, count, count};
            PvqBandCodec x = Frames.codec(k);
            for (int i = 0; i < 64; i++) {
                x.putByte(i, 255);
            }
            int length = x.encodeFrame();
            CHECK.due("bytes read", Frames.decode(CHECK, "unedited", x, k).position, length);
            int[] indices = new int[4];
            for (int b = 0; b < 4; b++) {
                indices[b] = numbers.below(Model.size(8, count));
            }
            int[] longer = java.util.Arrays.copyOf(SpelledEncoder.packet(k, new int[] {60, 30, 50, 40}, indices), length);
            Frames.put(x, longer);
            SpelledDecoder d = Frames.decode(CHECK, "edited, " + count + " pulses", x, k);
            int[] withOld = java.util.Arrays.copyOf(longer, 64);
            java.util.Arrays.fill(withOld, length, 64, 255);
            SpelledDecoder old = new SpelledDecoder(k, withOld);
            differing += java.util.Arrays.equals(d.indices, old.indices) ? 0 : 1;
        }
        CHECK.due("old bytes would have brought other frames", differing > 20, true);
    }

    /** Five bytes push out whatever code was before, and of themselves the first. */
    private static void losesTheFirstByte() {
        CHECK.sentence("Start: read position 0, range = 4294967295, code = 0; then five times code = (code*256 +"
                + " nextByte) mod 2^32.");
        int[] k = {3, 7, 12, 16};
        for (int[] rest : new int[][] {{0, 0, 0, 0}, {255, 255, 255, 255}, {128, 0, 0, 1}, {226, 252, 18, 77}}) {
            for (int first = 0; first <= 255; first++) {
                PvqBandCodec x = Frames.holding(k, first, rest[0], rest[1], rest[2], rest[3], 230, 65, 224);
                Frames.decode(CHECK, "first byte " + first, x, k);
                PvqBandCodec zero = Frames.holding(k, 0, rest[0], rest[1], rest[2], rest[3], 230, 65, 224);
                zero.decodeFrame();
                CHECK.due("first byte " + first, State.decoder(x), State.decoder(zero));
            }
        }
    }

    private static void dueRange(long range, int[] k, int... bytes) {
        PvqBandCodec x = Frames.holding(k, bytes);
        SpelledDecoder d = Frames.decode(CHECK, "range is " + range, x, k);
        CHECK.due("range is " + range, d.ranges.contains(range), true);
        for (int i = 1; i < bytes.length; i++) {
            PvqBandCodec edited = Frames.holding(k, bytes);
            edited.putByte(i, bytes[i] + 1);
            Frames.decode(CHECK, "range is " + range + ", byte " + i + " edited", edited, k);
        }
    }

    /** The packets of the range encoder's test; 16777215 is out of reach here as there (RangeReachTest). */
    private static void normalisesBelowTheLimitAlone() {
        CHECK.sentence("Normalise: while range < 16777216: range = range*256; code = (code*256 + nextByte) mod 2^32.");
        dueRange(16777216, new int[] {4, 16, 9, 1}, 0, 54, 150, 38, 88, 31, 137, 63, 185, 77, 7, 64, 208, 0);
        dueRange(16777216, new int[] {4, 16, 1, 5}, 0, 54, 148, 33, 13, 14, 70, 54, 154, 4, 140, 0);
        dueRange(16777216, new int[] {6, 10, 8, 13},
                0, 54, 156, 22, 133, 163, 49, 123, 73, 150, 156, 129, 42, 144, 0, 0);
        dueRange(16776112, new int[] {16, 1, 11, 2}, 0, 167, 64, 86, 155, 150, 108, 35, 78, 214, 19, 7, 96);
        dueRange(16776704, new int[] {8, 14, 6, 14},
                0, 169, 150, 54, 174, 18, 214, 10, 120, 28, 96, 237, 207, 230, 198, 108, 0, 0);
    }

    private static void holdSentence() {
        CHECK.sentence("v = code/r rounded down; if v > total-1 then v = total-1");
    }

    /** A packet whose first code is this one, and whose later bytes are of no account. */
    private static int[] withCode(long code) {
        return new int[] {
            0, (int) (code >> 24) & 255, (int) (code >> 16) & 255, (int) (code >> 8) & 255, (int) code & 255, 7, 7, 7, 7
        };
    }

    /** 150 steps of 28633115 are 4294967250. */
    private static void holdsAnEnergyValue() {
        holdSentence();
        int[] k = {5, 1, 1, 1};
        long[] codes = {4294967249L, 4294967250L, 4294967295L};
        for (long code : codes) {
            PvqBandCodec x = Frames.holding(k, withCode(code));
            SpelledDecoder d = Frames.decode(CHECK, "code " + code, x, k);
            CHECK.due("v of code " + code, d.values.get(0), code < 4294967250L ? 149 : 150);
            CHECK.due("energyQ(1, 0) of code " + code, x.energyQ(1, 0), 33);
        }
    }

    /** After the last energy symbol range is 28633115: 16 steps of 1789569 leave 11 over. */
    private static void holdsAWholeIndex() {
        holdSentence();
        int[] k = {1, 4, 4, 4};
        for (long rest = 28633102; rest <= 28633114; rest++) {
            PvqBandCodec x = Frames.holding(k, withCode(149 * ENERGY_STEP + rest));
            SpelledDecoder d = Frames.decode(CHECK, "rest " + rest, x, k);
            CHECK.due("v of rest " + rest, d.values.get(1), rest < 28633104 ? 15 : 16);
            CHECK.due("pulse(1, 0) of rest " + rest, x.pulse(1, 0), -1);
        }
    }

    /**
     * 59212 steps of 483 are 28599396; past them the high part is held, and so much is left that the
     * low part must be held too.
     */
    private static void holdsAHighAndALowPart() {
        holdSentence();
        int[] k = {16, 2, 2, 2};
        for (long rest : new long[] {28599395, 28599396, 28599397, 28633114}) {
            PvqBandCodec x = Frames.holding(k, withCode(149 * ENERGY_STEP + rest));
            SpelledDecoder d = Frames.decode(CHECK, "rest " + rest, x, k);
            boolean past = rest > 28599395;
            CHECK.due("high v past its end, rest " + rest, d.values.get(1) > 59211, past);
            CHECK.due("low v past its end, rest " + rest, d.values.get(2) > 255, past);
            CHECK.due("pulse(1, 0), rest " + rest, x.pulse(1, 0), -16);
        }
    }

    /** No band has a total of 65536 itself: six pulses have 27008 vectors, seven have 68464. */
    private static void partsTotalsAbove65536() {
        CHECK.sentence("Uniform over [0,T): if T <= 65536, x = v (start v, size 1). Otherwise, with m and b as in the"
                + " encoder");
        int[] k = {6, 7, 6, 7};
        for (int step = 0; step < 27008; step += 16) {
            int[] indices = {step, 68463 - step, 27007 - step, 2 * step + 1};
            PvqBandCodec x = Frames.holding(k, SpelledEncoder.packet(k, new int[] {0, 2, 4, 6}, indices));
            SpelledDecoder d = Frames.decode(CHECK, "step " + step, x, k);
            for (int b = 0; b < 4; b++) {
                CHECK.due("index of band " + b, d.indices[b], indices[b]);
            }
            CHECK.due("bands in two parts", d.parted.size(), 2);
        }
    }

    /**
     * Only 11, 13 and 15 pulses have vectors in a number that the low part's total does not divide, so
     * only there can the two parts pass the end. What follows must still be found.
     */
    private static void holdsTheIndexOfTwoParts() {
        CHECK.sentence("x = hi*2^b + lo; if x > T-1 then x = T-1.");
        int[] counts = {11, 13, 15};
        int[] highTotals = {38418, 58322, 38223};
        int[] lowTotals = {32, 64, 256};
        for (int i = 0; i < 3; i++) {
            int[] k = {counts[i], 3, 12, counts[i]};
            int total = Model.size(8, counts[i]);
            for (int lo = 0; lo < lowTotals[i]; lo++) {
                int x = (highTotals[i] - 1) * lowTotals[i] + lo;
                SpelledEncoder e = new SpelledEncoder();
                e.energy(10);
                e.code(highTotals[i] - 1, 1, highTotals[i]);
                e.code(lo, 1, lowTotals[i]);
                e.energy(4);
                e.uniform(600, 688);
                e.energy(66);
                e.uniform(2000000, 2187520);
                e.energy(0);
                e.code(highTotals[i] - 1, 1, highTotals[i]);
                e.code(lo, 1, lowTotals[i]);
                PvqBandCodec codec = Frames.holding(k, e.flush());
                String when = counts[i] + " pulses, x = " + x + " of " + total;
                SpelledDecoder d = Frames.decode(CHECK, when, codec, k);
                CHECK.due(when, d.parted.get(0), x);
                CHECK.due(when + ": the next index", d.indices[1], 600);
                CHECK.due(when + ": the third index", d.indices[2], 2000000);
                dueLast(when, codec, 0, counts[i], total - 1 - x);
                dueLast(when, codec, 3, counts[i], total - 1 - x);
            }
        }
    }

    private static void dueLast(String when, PvqBandCodec x, int band, int count, int before) {
        if (before <= 1) {
            CHECK.due(when + ": pulse(1, " + 8 * band + ")", x.pulse(1, 8 * band), before == 1 ? count : -count);
            for (int j = 1; j < 8; j++) {
                CHECK.due(when + ": pulse(1, " + (8 * band + j) + ")", x.pulse(1, 8 * band + j), 0);
            }
        }
    }

    private static void decodesTheEndsOfEveryTotal() {
        CHECK.sentence("y is the vector of P(8,Kb) with I(y;8,Kb) = x.");
        for (int count = 1; count <= 16; count++) {
            int[] k = {count, count, count, count};
            int total = Model.size(8, count);
            int[] indices = {0, total - 1, 1, total - 2};
            PvqBandCodec x = Frames.holding(k, SpelledEncoder.packet(k, new int[] {66, 0, 65, 1}, indices));
            Frames.decode(CHECK, count + " pulses", x, k);
            CHECK.due("the first of " + count, x.pulse(1, 7), count);
            CHECK.due("the last of " + count, x.pulse(1, 8), -count);
            CHECK.due("the second of " + count, x.pulse(1, 23), -count);
            CHECK.due("the last but one of " + count, x.pulse(1, 24), count);
        }
    }
}
