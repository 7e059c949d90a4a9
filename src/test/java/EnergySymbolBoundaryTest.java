/** The energy symbol table at its two ends and at the ends of each symbol, and the zigzag, on both sides. */
public final class EnergySymbolBoundaryTest {
    private static final Check CHECK = new Check();
    private static final int[] ONE = {1, 1, 1, 1};
    private static final long STEP = 4294967295L / 150;

    private EnergySymbolBoundaryTest() {}

    public static void main(String[] args) {
        theTableIsTheDocuments();
        encodesEveryResidual();
        encodesTheEndsOfTheTable();
        zigzagsAboutZero();
        decodesTheEndsOfEverySymbol();
        decodesTheEndsOfTheTable();
        zigzagsBackEverySymbol();
        CHECK.finish();
    }

    /** The helper that the other tests lean on, held against the sentence's other half. */
    private static void theTableIsTheDocuments() {
        CHECK.sentence("freq(s) = 32 >> ((s+1)/2) for s <= 8 ... freq(s) = 1 for s >= 9. start(s) = sum of freq(t) for"
                + " t < s");
        int sum = 0;
        for (int s = 0; s <= 66; s++) {
            CHECK.due("start(" + s + ")", Symbols.start(s), sum);
            CHECK.due("freq(" + s + ")", Symbols.freq(s), s <= 8 ? 32 >> ((s + 1) / 2) : 1);
            sum += Symbols.freq(s);
        }
        CHECK.due("the total", sum, PvqBandCodec.ENERGY_TOTAL);
    }

    /** Every energy after every other one: the residuals from -25 to 33. */
    private static void encodesEveryResidual() {
        CHECK.sentence("p = prediction from the encoder q of band b remembered from the last encodeFrame (0 before the"
                + " first); r = q - p; code(start(s), freq(s), 150) with s = zigzag(r).");
        for (int before = 0; before <= 33; before++) {
            for (int q = 0; q <= 33; q++) {
                PvqBandCodec x = Frames.codec(ONE);
                Frames.loudness(x, 0, before);
                Frames.loudness(x, 3, q);
                Frames.encode(CHECK, "first " + before + " " + q, x);
                Frames.loudness(x, 0, q);
                Frames.loudness(x, 3, before);
                Frames.encode(CHECK, "then " + q + " " + before, x);
                CHECK.due("energyQ(0, 0)", x.energyQ(0, 0), q);
                CHECK.due("energyQ(0, 3)", x.energyQ(0, 3), before);
            }
        }
    }

    /**
     * s = 0 is silence after silence; s = 66 is the greatest energy after silence. The odd symbols
     * end at 49 here: the least residual is silence after q = 33, which is -25. Only a made packet
     * has the odd ones from 51 to 65.
     */
    private static void encodesTheEndsOfTheTable() {
        CHECK.sentence("Energy symbol table, alphabet s = 0..66, total 150");
        PvqBandCodec x = Frames.codec(ONE);
        Frames.encode(CHECK, "s = 0", x);
        Frames.duePacket(CHECK, "s = 0", x, 0, 48, 110, 179, 169, 62, 120, 0);
        Frames.loudness(x, 0, 33);
        Frames.encode(CHECK, "s = 66", x);
        Frames.duePacket(CHECK, "s = 66", x, 0, 255, 206, 141, 75, 56, 132, 0);
        Frames.loudness(x, 0, 0);
        Frames.encode(CHECK, "s = 49", x);
        Frames.duePacket(CHECK, "s = 49", x, 0, 226, 203, 35, 128, 56, 132, 0);
    }

    private static void zigzagsAboutZero() {
        CHECK.sentence("Zigzag: residual r maps to s = 2r if r >= 0 and s = -2r-1 if r < 0.");
        int[] before = {0, 1, 0, 1, 2, 0};
        int[] after = {0, 1, 1, 0, 0, 2};
        int[][] packets = {
            {0, 48, 110, 179, 169, 62, 120, 0}, {0, 48, 110, 179, 169, 62, 120, 0}, {0, 106, 34, 222, 228, 145, 4, 0},
            {0, 78, 212, 93, 52, 145, 4, 0}, {0, 121, 85, 179, 169, 76, 228, 0}, {0, 134, 252, 244, 129, 76, 228, 0}
        };
        for (int i = 0; i < packets.length; i++) {
            PvqBandCodec x = Frames.codec(ONE);
            Frames.loudness(x, 0, before[i]);
            x.encodeFrame();
            Frames.loudness(x, 0, after[i]);
            x.encodeFrame();
            Frames.duePacket(CHECK, after[i] + " after " + before[i], x, packets[i]);
        }
    }

    /** The decoder's first code is the second to the fifth byte, so a packet can set it to any value. */
    private static PvqBandCodec withCode(int[] k, long code) {
        return Frames.holding(k, 0, (int) (code >> 24), (int) (code >> 16), (int) (code >> 8), (int) code, 90, 160, 7);
    }

    /** Lets the decoder remember q = 33 first, so that residuals below 0 show. */
    private static PvqBandCodec withCodeAfterLoudest(long code) {
        PvqBandCodec x = Frames.holding(ONE, SpelledEncoder.packet(ONE, new int[] {66, 0, 0, 0}, new int[4]));
        x.decodeFrame();
        CHECK.due("energyQ(1, 0)", x.energyQ(1, 0), 33);
        for (int i = 1; i <= 4; i++) {
            x.putByte(i, (int) (code >> (8 * (4 - i))));
        }
        return x;
    }

    private static void decodesTheEndsOfEverySymbol() {
        CHECK.sentence("s is the one with start(s) <= v < start(s)+freq(s); start and size are start(s) and freq(s).");
        for (int s = 0; s <= 66; s++) {
            long first = STEP * Symbols.start(s);
            long last = STEP * (Symbols.start(s) + Symbols.freq(s)) - 1;
            for (long code : new long[] {first, first + 1, last - 1, last}) {
                int fromSilence = Math.max(0, Symbols.back(s));
                int fromLoudest = Math.min(33, Math.max(0, 25 + Symbols.back(s)));
                PvqBandCodec x = withCode(ONE, code);
                Frames.decode(CHECK, "s = " + s + " code " + code, x, ONE);
                CHECK.due("s = " + s + " code " + code + ": energyQ(1, 0)", x.energyQ(1, 0), fromSilence);
                PvqBandCodec y = withCodeAfterLoudest(code);
                Frames.decode(CHECK, "loud, s = " + s + " code " + code, y, ONE);
                CHECK.due("loud, s = " + s + " code " + code + ": energyQ(1, 0)", y.energyQ(1, 0), fromLoudest);
            }
        }
    }

    /** 150 steps of 28633115 end 45 below the greatest range: from there on v would be 150. */
    private static void decodesTheEndsOfTheTable() {
        CHECK.sentence("v = code/r rounded down; if v > total-1 then v = total-1; the symbol is chosen from v");
        long[] codes = {0, 4294967249L, 4294967250L, 4294967251L, 4294967294L, 4294967295L};
        long[] values = {0, 149, 150, 150, 150, 150};
        for (int i = 0; i < codes.length; i++) {
            PvqBandCodec x = withCode(ONE, codes[i]);
            SpelledDecoder d = Frames.decode(CHECK, "code " + codes[i], x, ONE);
            CHECK.due("the first v of code " + codes[i], d.values.get(0), values[i]);
            CHECK.due("energyQ(1, 0) of code " + codes[i], x.energyQ(1, 0), i == 0 ? 0 : 33);
        }
    }

    /** Each symbol in each band, the odd ones from 51 to 65 among them, as no frame of the encoder has them. */
    private static void zigzagsBackEverySymbol() {
        CHECK.sentence("Back: r = s/2 for even s, r = -(s+1)/2 for odd s.");
        int[] k = {1, 7, 16, 3};
        for (int s = 0; s <= 66; s++) {
            for (int band = 0; band < 4; band++) {
                PvqBandCodec x = Frames.codec(k);
                int[] symbols = {66, 66, 66, 66};
                Frames.put(x, SpelledEncoder.packet(k, symbols, new int[] {15, 68463, 15158271, 687}));
                x.decodeFrame();
                symbols[band] = s;
                int[] indices = {s % 16, 1000 * s, 200000 * s, 10 * s};
                Frames.put(x, SpelledEncoder.packet(k, symbols, indices));
                SpelledDecoder d = Frames.decode(CHECK, "s = " + s + " in band " + band, x, k);
                CHECK.due("the symbol", d.symbols[band], s);
                CHECK.due("the index", d.indices[band], indices[band]);
                int due = Math.min(33, Math.max(0, 25 + Symbols.back(s)));
                CHECK.due("energyQ(1, " + band + ") of s = " + s, x.energyQ(1, band), due);
            }
        }
    }
}
