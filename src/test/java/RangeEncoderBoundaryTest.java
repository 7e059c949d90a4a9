/**
 * The boundary sentences of 'Range encoder'. The frames were searched out so that low or range
 * stands on the limit; their packets were worked out apart from the class, and the spelled encoder
 * shows that they do stand there.
 */
public final class RangeEncoderBoundaryTest {
    private static final Check CHECK = new Check();

    private RangeEncoderBoundaryTest() {}

    public static void main(String[] args) {
        startsAnew();
        emitsTheLongestFrame();
        shiftsBelowTheCarryBytes();
        shiftsAtTheCarryBytes();
        shiftsBelowTheCarry();
        shiftsAtTheCarry();
        emitsWhatWaited();
        neverPassesAByte();
        normalisesBelowTheLimitAlone();
        flushesFiveTimes();
        partsTotalsAbove65536();
        codesTheEndsOfEveryTotal();
        CHECK.finish();
    }

    private static PvqBandCodec frame(int[] k, int[]... bands) {
        PvqBandCodec x = Frames.codec(k);
        for (int b = 0; b < bands.length; b++) {
            Frames.setFrom(x, 8 * b, bands[b]);
        }
        return x;
    }

    private static int[] of(int... values) {
        return values;
    }

    /**
     * That the cells past the length are cleared can't be seen: packetByte answers NONE there, a
     * decoder reads 0 there, and putByte at the length overwrites the cell that it adds. Nor can the
     * start of low, cache and pending be told from what a flush leaves, which is the same; nor a range
     * of one more or less, since the first step, a 150th of it, stays 28633115.
     */
    private static void startsAnew() {
        CHECK.sentence("Start: low = 0, range = 4294967295, cache = 0, pending = 1, packet length 0, all 64 packet"
                + " cells 0.");
        int[] k = {2, 11, 14, 1};
        PvqBandCodec x = frame(k, of(0, 0, 0, 0, 1026, 0, 0, -1026), of(0, 0, 2, 0, -4, -6, 6, 4),
                of(-369, 246, 123, -123, 246, 123, -492, 0), of(0, 0, 0, 0, 92, 0, 0, 0));
        int[] first = {0, 217, 2, 53, 0, 0, 0, 27, 120, 162, 202, 157, 162, 192, 0};
        Frames.encode(CHECK, "the first frame", x);
        Frames.duePacket(CHECK, "the first frame", x, first);
        for (int i = 0; i < 64; i++) {
            x.putByte(i, 255);
        }
        Frames.encode(CHECK, "over a full packet", x);
        CHECK.due("a shorter packet", x.packetLength() < 64, true);
        // Silence makes the encoder remember 0 in every band, as before its first frame.
        int[] inputs = new int[32];
        for (int pos = 0; pos < 32; pos++) {
            inputs[pos] = x.coefAt(pos);
            x.setCoef(pos, 0);
        }
        Frames.encode(CHECK, "silence", x);
        Frames.setFrom(x, 0, inputs);
        Frames.encode(CHECK, "the first frame again", x);
        Frames.duePacket(CHECK, "the first frame again", x, first);
    }

    /**
     * No run drops a byte: RangeReachTest goes every way that a frame can take, and none has more
     * than 20 bytes. This is one of them.
     */
    private static void emitsTheLongestFrame() {
        CHECK.sentence("emit(x): if length < 64, cell[length] = x and length grows by 1; otherwise x is dropped.");
        PvqBandCodec x = new PvqBandCodec(16, 16, 16, 16);
        for (int pos = 0; pos < 32; pos++) {
            x.setCoef(pos, 32767);
        }
        Frames.encode(CHECK, "the longest", x);
        Frames.duePacket(CHECK, "the longest", x,
                0, 255, 59, 164, 40, 153, 141, 89, 30, 13, 68, 157, 171, 68, 216, 141, 27, 32, 0, 0);
    }

    private static void dueLow(long low, PvqBandCodec x, int... bytes) {
        SpelledEncoder e = Frames.encode(CHECK, "low is " + low, x);
        CHECK.due("low is " + low, e.lows.contains(low), true);
        Frames.duePacket(CHECK, "low is " + low, x, bytes);
    }

    private static void shiftLowSentence() {
        CHECK.sentence("shiftLow: if low < 4278190080 or low >= 4294967296");
    }

    private static void shiftsBelowTheCarryBytes() {
        shiftLowSentence();
        dueLow(4278190079L, frame(of(1, 10, 1, 1), of(0, 0, 2), of(-3655, -731, -1462, 0, 0, -731, 0, 731)),
                0, 148, 1, 255, 0, 3, 129, 255, 51, 40, 0);
        dueLow(4278190079L, frame(of(3, 15, 1, 1), of(0, -419, 0, 0, 0, -419, 419), of(4, 4, 24, -8, 4, -8, 8)),
                0, 210, 219, 254, 255, 255, 255, 89, 217, 61, 220, 0);
    }

    /**
     * Here the byte 255 waits, as the sentence says; but whether it waits can't be seen at this very
     * value: range is below 16777216 before a shift, so low + range stays below 4294967296 and no
     * carry can come.
     */
    private static void shiftsAtTheCarryBytes() {
        shiftLowSentence();
        dueLow(4278190080L, frame(of(1, 16, 1, 1), of(0, 0, 0, 0, 0, 0, -16),
                of(8878, 22195, 13317, -17756, -4439, 0, 0, 4439)), 0, 172, 203, 255, 0, 0, 9, 193, 156, 20, 44);
    }

    /** The carry comes later, so a byte that did not wait would miss it. */
    private static void shiftsBelowTheCarry() {
        shiftLowSentence();
        dueLow(4294967295L, frame(of(2, 8, 1, 1), of(0, -1, 0, 1), of(-4, -4, 0, 0, 0, 4, -8, 12)),
                0, 132, 196, 0, 0, 3, 171, 232, 22, 132, 0);
    }

    private static void shiftsAtTheCarry() {
        shiftLowSentence();
        dueLow(4294967296L, frame(of(2, 10, 1, 1), of(0, 2, 0, 0, 0, 0, 0, 2), of(0, -20, -10, -20, 20, 0, 30)),
                0, 155, 138, 0, 0, 0, 56, 45, 216, 12, 0);
        dueLow(4294967296L, frame(of(6, 13, 1, 1), of(0, -16, -8, 0, 8, -8, 8), of(44, 44, 0, 88, -22, 66, 22)),
                0, 176, 133, 204, 0, 0, 0, 6, 1, 116, 200, 168);
    }

    private static void dueEmission(int pending, int c, PvqBandCodec x, int... bytes) {
        String when = pending + " bytes with carry " + c;
        SpelledEncoder e = Frames.encode(CHECK, when, x);
        CHECK.due(when, e.emissions.contains(1000 * pending + c), true);
        Frames.duePacket(CHECK, when, x, bytes);
    }

    private static void emitsWhatWaited() {
        CHECK.sentence("let c = low / 4294967296 (0 or 1); emit((cache + c) mod 256); then emit((255 + c) mod 256)"
                + " pending-1 times");
        dueEmission(1, 0, frame(of(1, 1, 1, 1)), 0, 48, 110, 179, 169, 62, 120, 0);
        dueEmission(1, 1, frame(of(1, 1, 1, 1), of(1)), 0, 106, 34, 222, 228, 145, 4, 0);
        dueEmission(2, 0, frame(of(1, 1, 1, 1), of(-1)), 0, 107, 215, 198, 255, 145, 4, 0);
        dueEmission(2, 1, frame(of(1, 1, 1, 1), of(0, 0, 0, 0, 2)), 0, 146, 0, 47, 25, 124, 44, 0);
        dueEmission(3, 0, frame(of(2, 13, 13, 3), of(0, 0, -1477, 0, 0, -1477),
                of(12369, 4123, -4123, 4123, -4123, 8246, 0, 16492), of(-2, -4, 2, -2, 4, 0, 8, -4),
                of(-212, 0, 0, 0, 0, 0, -212, 212)),
                0, 221, 10, 25, 9, 218, 38, 251, 255, 255, 225, 187, 10, 137, 0, 0);
        dueEmission(3, 1, frame(of(3, 10, 3, 7), of(-4, 4, 0, 0, -4), of(928, 0, 928, -464, -464, 0, -1392, -464),
                of(0, 0, 0, 0, 1, -1, -1), of(-9, 18, 0, 18, 0, 0, -18)),
                0, 163, 184, 118, 130, 111, 171, 0, 0, 13, 114, 103, 83, 0, 0);
        dueEmission(4, 0, frame(of(1, 11, 7, 8), of(0, 0, 64), of(1882, 3764, 3764, 3764, 3764, -1882, -1882),
                of(9, 0, -27, 0, 0, 9, -9, -9), of(440, -110, 0, 0, 0, 0, 110, 220)),
                0, 187, 48, 232, 91, 223, 195, 189, 255, 255, 255, 209, 207, 0, 0);
        dueEmission(4, 1, frame(of(2, 11, 14, 1), of(0, 0, 0, 0, 1026, 0, 0, -1026), of(0, 0, 2, 0, -4, -6, 6, 4),
                of(-369, 246, 123, -123, 246, 123, -492), of(0, 0, 0, 0, 92)),
                0, 217, 2, 53, 0, 0, 0, 27, 120, 162, 202, 157, 162, 192, 0);
    }

    /**
     * (cache + c) mod 256 never has anything to take away: before a shift, low mod 16777216 and range
     * are both below 16777216, so all that follows raises the byte that waits by 1 at most, and a
     * byte that was 255 already had its carry. For the same reason the first byte stays 0.
     */
    private static void neverPassesAByte() {
        CHECK.sentence("emit((cache + c) mod 256)");
        Numbers numbers = new Numbers(64);
        for (int run = 0; run < 3000; run++) {
            PvqBandCodec x = new PvqBandCodec(
                    numbers.between(1, 16), numbers.between(1, 16), numbers.between(1, 16), numbers.between(1, 16));
            for (int pos = 0; pos < 32; pos++) {
                x.setCoef(pos, numbers.between(-32767, 32767) >> numbers.below(16));
            }
            SpelledEncoder e = Frames.encode(CHECK, "run " + run, x);
            CHECK.due("cache + c is a byte", e.greatestByte <= 255, true);
            CHECK.due("packetByte(0)", x.packetByte(0), 0);
        }
    }

    private static void dueRange(long range, int total, PvqBandCodec x, int... bytes) {
        String when = "range is " + range + " of total " + total;
        SpelledEncoder e = Frames.encode(CHECK, when, x);
        boolean there = false;
        for (int i = 0; i < e.ranges.size(); i++) {
            there |= e.ranges.get(i) == range && e.totals.get(i) == total;
        }
        CHECK.due(when, there, true);
        Frames.duePacket(CHECK, when, x, bytes);
    }

    /**
     * 16777216 after an energy symbol, after a whole index and after an index's low part; a high part
     * never leaves so much. 16777215 is out of reach (RangeReachTest): these come nearest to it.
     */
    private static void normalisesBelowTheLimitAlone() {
        CHECK.sentence("while range < 16777216: range = range*256, then shiftLow.");
        dueRange(16777216, 150, frame(of(4, 16, 9, 1), of(), of(0, 0, 5), of(-1)),
                0, 54, 150, 38, 88, 31, 137, 63, 185, 77, 7, 64, 208, 0);
        dueRange(16777216, 16, frame(of(4, 16, 1, 5), of(), of(), of(1, -1)),
                0, 54, 148, 33, 13, 14, 70, 54, 154, 4, 140, 0);
        dueRange(16777216, 4, frame(of(6, 10, 8, 13), of(), of(0, 2, -2), of(0, 1, 0, 1)),
                0, 54, 156, 22, 133, 163, 49, 123, 73, 150, 156, 129, 42, 144, 0, 0);
        dueRange(16776112, 150, frame(of(16, 1, 11, 2), of(9), of(), of(0, 1), of(0, 0, 0, 0, 0, 0, 0, -1)),
                0, 167, 64, 86, 155, 150, 108, 35, 78, 214, 19, 7, 96);
        dueRange(16776112, 128, frame(of(16, 1, 11, 2), of(9), of(), of(0, 1), of(0, 0, 0, 0, 0, 1, 0, -1)),
                0, 167, 64, 86, 155, 150, 108, 35, 80, 93, 12, 113, 48, 0);
        dueRange(16776704, 128, frame(of(8, 14, 6, 14), of(0, 9, 0, -9), of(0, 2), of(50, 0, 0, -50),
                of(0, 0, 0, 0, -99, 7, 7)),
                0, 169, 150, 54, 174, 18, 214, 10, 120, 28, 96, 237, 207, 230, 198, 108, 0, 0);
    }

    private static void flushesFiveTimes() {
        CHECK.sentence("Flush: shiftLow five times.");
        PvqBandCodec plain = frame(of(1, 1, 1, 1));
        dueFlush("nothing waits", plain, 0, 4278190079L);
        Frames.duePacket(CHECK, "nothing waits", plain, 0, 48, 110, 179, 169, 62, 120, 0);
        PvqBandCodec waits = frame(of(1, 1, 1, 1), of(0, 0, 0, 12));
        dueFlush("a 255 waits", waits, 4278190080L, 4294967295L);
        Frames.duePacket(CHECK, "a 255 waits", waits, 0, 169, 213, 96, 255, 56, 132, 0);
        PvqBandCodec carries = frame(of(1, 1, 1, 1), of(-40));
        dueFlush("a carry comes", carries, 4294967296L, 8589934591L);
    }

    private static void dueFlush(String when, PvqBandCodec x, long least, long most) {
        SpelledEncoder e = Frames.encode(CHECK, when, x);
        long low = e.lows.get(e.lows.size() - 5);
        CHECK.due(when + " at the flush", least <= low && low <= most, true);
    }

    /**
     * Six pulses have 27008 vectors, seven have 68464: no band has a total of 65536 itself, nor a
     * power of two above it where the lengths of T and of T-1 would differ.
     */
    private static void partsTotalsAbove65536() {
        CHECK.sentence("if T <= 65536, code(x,1,T). Otherwise let m = T-1 and b = bitlength(m) - 16; code(x>>b, 1,"
                + " (m>>b)+1); then code(x mod 2^b, 1, 2^b).");
        PvqBandCodec six = frame(of(6, 6, 6, 6));
        dueTotals(six, 150, 27008, 150, 27008, 150, 27008, 150, 27008);
        Frames.duePacket(CHECK, "six", six, 0, 54, 155, 226, 186, 146, 239, 211, 142, 212, 190, 0, 0);
        PvqBandCodec seven = frame(of(7, 7, 7, 7));
        dueTotals(seven, 150, 34232, 2, 150, 34232, 2, 150, 34232, 2, 150, 34232, 2);
        Frames.duePacket(CHECK, "seven", seven, 0, 54, 156, 142, 168, 129, 229, 234, 59, 8, 225, 179, 0, 0);
        dueTotals(frame(of(1, 2, 3, 4)), 150, 16, 150, 128, 150, 688, 150, 2816);
        dueTotals(frame(of(5, 8, 9, 10)), 150, 9424, 150, 39296, 4, 150, 41586, 8, 150, 41128, 16);
        dueTotals(frame(of(11, 12, 13, 14)), 150, 38418, 32, 150, 34180, 64, 150, 58322, 64, 150, 47975, 128);
        dueTotals(frame(of(15, 16, 16, 16)), 150, 38223, 256, 150, 59212, 256, 150, 59212, 256, 150, 59212, 256);
    }

    private static void dueTotals(PvqBandCodec x, int... totals) {
        SpelledEncoder e = Frames.encode(CHECK, "totals", x);
        CHECK.due("the totals", e.totals.toString(), java.util.Arrays.toString(totals));
    }

    /** The first two and the last two of each pyramid, and about the first border between the two parts. */
    private static void codesTheEndsOfEveryTotal() {
        CHECK.sentence("Uniform value x in [0,T), T >= 2");
        for (int k = 1; k <= 16; k++) {
            int total = Model.size(8, k);
            int apart = total <= 65536 ? 1 : 1 << (16 - Integer.numberOfLeadingZeros(total - 1));
            for (int index : new int[] {0, 1, apart - 1, apart, total - apart, total - 2, total - 1}) {
                int[] y = Model.unindex(8, k, index);
                PvqBandCodec x = new PvqBandCodec(k, 16, k, 1);
                for (int j = 0; j < 8; j++) {
                    x.setCoef(j, 900 * y[j]);
                    x.setCoef(16 + j, 900 * y[j]);
                }
                Frames.encode(CHECK, "index " + index + " of " + k + " pulses", x);
                for (int j = 0; j < 8; j++) {
                    CHECK.due("pulse " + j + " of index " + index, x.pulse(0, j), y[j]);
                }
            }
        }
    }
}
