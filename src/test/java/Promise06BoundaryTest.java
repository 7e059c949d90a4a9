import java.math.BigInteger;
import java.util.ArrayList;
import java.util.List;

/** The boundary sentences of Promise 6: decoding a frame. The range decoder's own stand apart. */
public final class Promise06BoundaryTest {
    private static final Check CHECK = new Check();

    private Promise06BoundaryTest() {}

    public static void main(String[] args) {
        keepsThePacketOfAnyLength();
        acceptsAnEmptyPacket();
        acceptsAnyContent();
        predictsFromZeroBeforeTheFirst();
        predictsFromTheLastDecodeFrame();
        clampsEveryEnergy();
        keepsEveryBand();
        isSilentAtEnergyZero();
        scalesEveryVector();
        rootsAtWholeSquares();
        changesNothingElse();
        CHECK.finish();
    }

    private static void keepsThePacketOfAnyLength() {
        CHECK.sentence("It is never refused and the packet (its cells and length) is not changed.");
        for (int length = 0; length <= 64; length++) {
            PvqBandCodec x = new PvqBandCodec(16, 11, 7, 1);
            for (int i = 0; i < length; i++) {
                x.putByte(i, 255 - 11 * i);
            }
            String packet = State.packet(x);
            for (int frame = 0; frame < 3; frame++) {
                x.decodeFrame();
                CHECK.due("the packet of " + length, State.packet(x), packet);
            }
        }
    }

    private static void acceptsAnEmptyPacket() {
        CHECK.sentence("Any packet content is accepted, including one built or edited with putByte and an empty one;"
                + " reads past the packet length yield 0.");
        for (int k = 1; k <= 16; k++) {
            PvqBandCodec x = new PvqBandCodec(k, 17 - k, k, 17 - k);
            x.decodeFrame();
            for (int pos = 0; pos < 32; pos++) {
                int count = pos / 8 % 2 == 0 ? k : 17 - k;
                CHECK.due("pulse(1, " + pos + ")", x.pulse(1, pos), pos % 8 == 7 ? count : 0);
                CHECK.due("decodedCoef(" + pos + ")", x.decodedCoef(pos), 0);
            }
            CHECK.due("packetLength()", x.packetLength(), 0);
        }
    }

    /** Packets of one byte over and over, of two, and every value of each single byte. */
    private static void acceptsAnyContent() {
        CHECK.sentence("Any packet content is accepted, including one built or edited with putByte and an empty one;"
                + " reads past the packet length yield 0.");
        int[][] counts = {{1, 1, 1, 1}, {16, 16, 16, 16}, {6, 7, 6, 7}, {11, 13, 15, 2}};
        for (int[] k : counts) {
            for (int value = 0; value <= 255; value++) {
                PvqBandCodec same = Frames.codec(k);
                PvqBandCodec two = Frames.codec(k);
                for (int i = 0; i < 64; i++) {
                    same.putByte(i, value);
                    two.putByte(i, i % 2 == 0 ? value : 255 - value);
                }
                Frames.decode(CHECK, "all " + value, same, k);
                Frames.decode(CHECK, "all " + value + ", again", same, k);
                Frames.decode(CHECK, value + " by turns", two, k);
                for (int at = 0; at < 20; at++) {
                    PvqBandCodec single = Frames.codec(k);
                    for (int i = 0; i < at; i++) {
                        single.putByte(i, 0);
                    }
                    single.putByte(at, value);
                    Frames.decode(CHECK, value + " at " + at, single, k);
                }
            }
        }
    }

    private static void predictionSentence() {
        CHECK.sentence("p = prediction from the decoder q of band b (from the last decodeFrame, 0 before the first)");
    }

    private static void predictsFromZeroBeforeTheFirst() {
        predictionSentence();
        int[] k = {1, 1, 1, 1};
        PvqBandCodec x = Frames.codec(k);
        for (int b = 0; b < 4; b++) {
            Frames.loudness(x, b, 33);
        }
        // The encoder's memory does not count for the decoder.
        x.encodeFrame();
        x.encodeFrame();
        CHECK.due("energyQ(0, 0)", x.energyQ(0, 0), 33);
        x.decodeFrame();
        for (int b = 0; b < 4; b++) {
            CHECK.due("energyQ(1, " + b + ")", x.energyQ(1, b), 33 - 25);
        }
    }

    private static void predictsFromTheLastDecodeFrame() {
        predictionSentence();
        int[] k = {1, 1, 1, 1};
        PvqBandCodec x = Frames.holding(k, SpelledEncoder.packet(k, new int[] {66, 40, 20, 2}, new int[4]));
        int[][] due = {{33, 20, 10, 1}, {33, 33, 18, 2}, {33, 33, 24, 3}};
        for (int[] q : due) {
            x.decodeFrame();
            for (int b = 0; b < 4; b++) {
                CHECK.due("energyQ(1, " + b + ")", x.energyQ(1, b), q[b]);
            }
        }
    }

    /** Every remembered q with every symbol: sums from -33 to 58. */
    private static void clampsEveryEnergy() {
        CHECK.sentence("q = p + zigzag-back(s), clamped into [0,33].");
        int[] k = {1, 2, 3, 4};
        for (int before = 0; before <= 33; before++) {
            for (int s = 0; s <= 66; s++) {
                int p = (3 * before + 2) / 4;
                int r = s % 2 == 0 ? s / 2 : -(s + 1) / 2;
                int due = p + r < 0 ? 0 : p + r > 33 ? 33 : p + r;
                for (int band = 0; band < 4; band++) {
                    int[] symbols = new int[4];
                    symbols[band] = 2 * before;
                    PvqBandCodec x = Frames.holding(k, SpelledEncoder.packet(k, symbols, new int[4]));
                    x.decodeFrame();
                    symbols[band] = s;
                    Frames.put(x, SpelledEncoder.packet(k, symbols, new int[4]));
                    x.decodeFrame();
                    CHECK.due("energyQ(1, " + band + ") of s = " + s + " after " + before, x.energyQ(1, band), due);
                }
            }
        }
    }

    private static void keepsEveryBand() {
        CHECK.sentence("The decoder q of band b becomes q; decoder pulses 8b..8b+7 become y.");
        int[] k = {1, 2, 3, 16};
        PvqBandCodec x = Frames.holding(k, SpelledEncoder.packet(k, new int[] {2, 6, 8, 60}, new int[] {
            Model.index(new int[] {-1, 0, 0, 0, 0, 0, 0, 0}), Model.index(new int[] {0, 0, 0, 0, 0, 0, 0, 2}),
            Model.index(new int[] {3, 0, 0, 0, 0, 0, 0, 0}), Model.index(new int[] {0, 0, 0, 0, 0, 0, 0, -16})}));
        x.decodeFrame();
        CHECK.due("the ends of the bands", State.decoder(x), "side 1 q 1 3 4 30 pulses"
                + " -1 0 0 0 0 0 0 0" + " 0 0 0 0 0 0 0 2" + " 3 0 0 0 0 0 0 0" + " 0 0 0 0 0 0 0 -16" + " decoded"
                + " -1 0 0 0 0 0 0 0" + " 0 0 0 0 0 0 0 2" + " 2 0 0 0 0 0 0 0" + " 0 0 0 0 0 0 0 -23170");
    }

    private static void isSilentAtEnergyZero() {
        CHECK.sentence("decoded coefficient 8b+j is 0 if q = 0 or y_j = 0");
        int[] k = {16, 1, 8, 3};
        int[] loud = {66, 66, 66, 66};
        int[] indices = {15158271, 15, 100000, 300};
        PvqBandCodec x = Frames.holding(k, SpelledEncoder.packet(k, loud, indices));
        x.decodeFrame();
        for (int pos = 0; pos < 32; pos++) {
            boolean silent = x.pulse(1, pos) == 0;
            CHECK.due("decodedCoef(" + pos + ") is 0", x.decodedCoef(pos) == 0, silent);
        }
        // The lowest symbol of all brings every q to 0, and the old coefficients must go.
        Frames.put(x, SpelledEncoder.packet(k, new int[] {65, 65, 65, 65}, indices));
        x.decodeFrame();
        for (int pos = 0; pos < 32; pos++) {
            CHECK.due("energyQ(1, " + pos / 8 + ")", x.energyQ(1, pos / 8), 0);
            CHECK.due("decodedCoef(" + pos + ") at q = 0", x.decodedCoef(pos), 0);
        }
    }

    /** All ways to part k pulses among at most 8 places, greatest first. */
    private static List<int[]> parts(int k) {
        List<int[]> all = new ArrayList<>();
        part(new int[8], 0, k, k, all);
        return all;
    }

    private static void part(int[] y, int at, int left, int most, List<int[]> all) {
        if (left == 0) {
            all.add(y.clone());
            return;
        }
        for (int m = Math.min(left, most); m > 0 && at < 8; m--) {
            y[at] = m;
            part(y, at + 1, left - m, m, all);
            y[at] = 0;
        }
    }

    private interface Seen {
        void coefficient(int q, int y, int squares, int got);
    }

    /** Decodes every energy with every way to part every count of pulses, in either sign and at any place. */
    private static void decodeEveryVector(Seen seen) {
        for (int count = 1; count <= 16; count++) {
            int[] k = {count, 1, 1, count};
            int turn = 0;
            for (int[] sorted : parts(count)) {
                int squares = 0;
                int[] y = new int[8];
                for (int j = 0; j < 8; j++) {
                    squares += sorted[j] * sorted[j];
                    y[(j + turn) % 8] = (j + turn) % 3 == 0 ? -sorted[j] : sorted[j];
                }
                turn++;
                for (int q = 0; q <= 33; q++) {
                    int index = Model.index(y);
                    int[] symbols = {2 * q, 0, 0, 2 * q};
                    PvqBandCodec x = Frames.holding(k, SpelledEncoder.packet(k, symbols, new int[] {index, 0, 0, index}));
                    x.decodeFrame();
                    for (int j = 0; j < 8; j++) {
                        seen.coefficient(q, y[j], squares, x.decodedCoef(j));
                        seen.coefficient(q, y[j], squares, x.decodedCoef(24 + j));
                    }
                }
            }
        }
    }

    private static BigInteger share(int q, int y, int squares) {
        return BigInteger.TWO.pow(q - 1).multiply(BigInteger.valueOf((long) y * y)).divide(BigInteger.valueOf(squares));
    }

    private static void scalesEveryVector() {
        CHECK.sentence("otherwise sign(y_j) * isqrt((Q*y_j*y_j)/S), the division rounded down and computed exactly.");
        decodeEveryVector((q, y, squares, got) -> {
            int due = q == 0 || y == 0 ? 0 : Integer.signum(y) * share(q, y, squares).sqrt().intValueExact();
            CHECK.due("the coefficient of q = " + q + ", y = " + y + ", S = " + squares, got, due);
        });
    }

    /** Shares that are a whole square, one less than one, 0 and the greatest do come up. */
    private static void rootsAtWholeSquares() {
        CHECK.sentence("isqrt(m) for m >= 0 is the greatest integer a >= 0 with a*a <= m.");
        int[] times = new int[4];
        decodeEveryVector((q, y, squares, got) -> {
            if (q == 0 || y == 0) {
                return;
            }
            long m = share(q, y, squares).longValueExact();
            long a = Math.abs(got);
            CHECK.due("a*a <= m of m = " + m, a * a <= m, true);
            CHECK.due("(a+1)*(a+1) > m of m = " + m, (a + 1) * (a + 1) > m, true);
            times[0] += m > 1 && a * a == m ? 1 : 0;
            times[1] += (a + 1) * (a + 1) - 1 == m && m > 3 ? 1 : 0;
            times[2] += m == 0 ? 1 : 0;
            times[3] += m == 4294967296L ? 1 : 0;
        });
        CHECK.due("whole squares came up", times[0] > 100, true);
        CHECK.due("one less than a square came up", times[1] > 10, true);
        CHECK.due("0 came up", times[2] > 10, true);
        CHECK.due("2^32 came up", times[3] > 10, true);
    }

    private static void changesNothingElse() {
        CHECK.sentence("decodeFrame does not change the input coefficients, the encoder q values or encoder pulses, the"
                + " packet, or the scratch vector.");
        PvqBandCodec decoding = State.busy();
        PvqBandCodec plain = State.busy();
        for (int i = 0; i < 64; i++) {
            decoding.putByte(i, 255 - i);
            plain.putByte(i, 255 - i);
            decoding.decodeFrame();
            CHECK.due("inputs", State.inputs(decoding), State.inputs(plain));
            CHECK.due("encoder", State.encoder(decoding), State.encoder(plain));
            CHECK.due("packet", State.packet(decoding), State.packet(plain));
            CHECK.due("scratch", State.scratch(decoding), State.scratch(plain));
        }
        decoding.encodeFrame();
        plain.encodeFrame();
        CHECK.due("the next packet", State.packet(decoding), State.packet(plain));
        CHECK.due("the next encoder", State.encoder(decoding), State.encoder(plain));
    }
}
