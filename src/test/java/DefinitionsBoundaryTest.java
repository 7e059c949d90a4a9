/** The boundary sentences of 'Definitions' above the range coder: exactness, bands, pyramids, lengths, prediction. */
public final class DefinitionsBoundaryTest {
    private static final Check CHECK = new Check();
    private static final int[] PREDICTED = {
        0, 1, 2, 2, 3, 4, 5, 5, 6, 7, 8, 8, 9, 10, 11, 11, 12, 13, 14, 14, 15, 16, 17, 17, 18, 19, 20, 20, 21, 22, 23, 23,
        24, 25
    };

    private DefinitionsBoundaryTest() {}

    public static void main(String[] args) {
        energiesDoNotWrap();
        searchProductsDoNotWrap();
        scalesDoNotWrap();
        bandsEndAtTheirEighthPosition();
        emptyPyramids();
        pyramidsByTheirSum();
        greatestPyramid();
        smallestTotals();
        indexOfTheEmptyVector();
        orderOfOneEntry();
        orderOfTheRest();
        indexByItsSum();
        indicesAreOneToOne();
        lengthOfZero();
        lengthAtEveryPowerOfTwo();
        predictionRoundsDown();
        CHECK.finish();
    }

    private static void exact() {
        CHECK.sentence("All values below are exact integers; no intermediate result wraps around as Java `int`"
                + " arithmetic would.");
    }

    /** The sums 2^31, 2^32, the greatest, and a little more than 2^31: an int would see 0 or less in each. */
    private static void energiesDoNotWrap() {
        exact();
        int[][] bands = {
            {16384, 16384, 16384, 16384, 16384, 16384, 16384, 16384},
            {32767, 32767, 32767, 32767, 511, 31, 7, 3},
            {-32767, -32767, -32767, -32767, -32767, -32767, -32767, -32767},
            {32767, 0, 0, 0, 0, 0, 32767, 363}
        };
        int[] q = {32, 33, 33, 32};
        PvqBandCodec x = new PvqBandCodec(1, 2, 3, 4);
        for (int b = 0; b < 4; b++) {
            Frames.setFrom(x, 8 * b, bands[b]);
        }
        x.encodeFrame();
        for (int b = 0; b < 4; b++) {
            CHECK.due("energyQ(0, " + b + ")", x.energyQ(0, b), q[b]);
        }
    }

    /** The products pass 2^31 from the first pulse on, and 2^46 at the last. */
    private static void searchProductsDoNotWrap() {
        exact();
        PvqBandCodec x = new PvqBandCodec(16, 16, 16, 16);
        Frames.setFrom(x, 0, 32767, 32766, 32765, 32764, 32763, 32762, 32761, 32760);
        Frames.setFrom(x, 8, -23170, 32767, 0, 0, 0, 0, 0, 11585);
        Frames.setFrom(x, 16, 0, 0, 0, 0, 0, 0, 0, -32767);
        Frames.setFrom(x, 24, 30000, -20000, 10000, -5000, 2500, -1250, 625, -312);
        x.encodeFrame();
        CHECK.due("loud", State.encoder(x), "side 0 q 33 31 30 31 pulses"
                + " 2 2 2 2 2 2 2 2" + " -5 8 0 0 0 0 0 3" + " 0 0 0 0 0 0 0 -16" + " 7 -5 2 -1 1 0 0 0");
    }

    /** 2^32 * 16 * 16 is 2^40. */
    private static void scalesDoNotWrap() {
        exact();
        PvqBandCodec x = new PvqBandCodec(16, 16, 16, 16);
        int[] k = {16, 16, 16, 16};
        // The first, the last but one and the last index, and one pulse beside fifteen.
        Frames.put(x, SpelledEncoder.packet(k, new int[] {66, 66, 66, 66}, new int[] {
            0, 15158270, 15158271, Model.index(new int[] {-15, 0, 0, 0, 0, 0, 0, 1})}));
        x.decodeFrame();
        int[] places = {7, 8, 16, 24, 31};
        int[] due = {65536, 65536, -65536, -65390, 4359};
        for (int i = 0; i < places.length; i++) {
            CHECK.due("decodedCoef(" + places[i] + ")", x.decodedCoef(places[i]), due[i]);
        }
    }

    private static void bandsEndAtTheirEighthPosition() {
        CHECK.sentence("Band b (0..3) holds positions 8b..8b+7.");
        for (int pos = 0; pos < 32; pos++) {
            PvqBandCodec x = new PvqBandCodec(2, 2, 2, 2);
            x.setCoef(pos, -1000);
            x.encodeFrame();
            x.decodeFrame();
            for (int side = 0; side < 2; side++) {
                for (int b = 0; b < 4; b++) {
                    boolean own = pos >= 8 * b && pos <= 8 * b + 7;
                    String when = pos + " is loud: ";
                    CHECK.due(when + "energyQ(" + side + ", " + b + ")", x.energyQ(side, b), own ? 20 : 0);
                    CHECK.due(when + "pulse(" + side + ", " + 8 * b + ")", x.pulse(side, 8 * b),
                            !own ? 2 : pos == 8 * b ? -2 : 0);
                    CHECK.due(when + "pulse(" + side + ", " + (8 * b + 7) + ")", x.pulse(side, 8 * b + 7),
                            pos == 8 * b + 7 ? -2 : 0);
                }
            }
            for (int at = 0; at < 32; at++) {
                CHECK.due("decodedCoef(" + at + ")", x.decodedCoef(at), at == pos ? -724 : 0);
            }
        }
    }

    private static void emptyPyramids() {
        CHECK.sentence("V(0,0) = 1; V(0,k) = 0 for k >= 1");
        PvqBandCodec x = new PvqBandCodec(1, 1, 1, 1);
        CHECK.due("pyramidSize(0, 0)", x.pyramidSize(0, 0), 1);
        for (int k = 1; k <= 16; k++) {
            CHECK.due("pyramidSize(0, " + k + ")", x.pyramidSize(0, k), 0);
        }
    }

    private static void pyramidsByTheirSum() {
        CHECK.sentence("for n >= 1, V(n,k) = V(n-1,k) + 2*(V(n-1,k-1) + V(n-1,k-2) + ... + V(n-1,0))");
        PvqBandCodec x = new PvqBandCodec(1, 1, 1, 1);
        for (int n = 1; n <= 8; n++) {
            for (int k = 0; k <= 16; k++) {
                int due = x.pyramidSize(n - 1, k);
                for (int less = k - 1; less >= 0; less--) {
                    due += 2 * x.pyramidSize(n - 1, less);
                }
                CHECK.due("pyramidSize(" + n + ", " + k + ")", x.pyramidSize(n, k), due);
            }
        }
    }

    private static void greatestPyramid() {
        CHECK.sentence("V(8,16) = 15158272 < 2^24");
        PvqBandCodec x = new PvqBandCodec(1, 1, 1, 1);
        CHECK.due("pyramidSize(8, 16)", x.pyramidSize(8, 16), 15158272);
        for (int n = 0; n <= 8; n++) {
            for (int k = 0; k <= 16; k++) {
                CHECK.due("V(" + n + ", " + k + ") is no greater", x.pyramidSize(n, k) <= 15158272, true);
            }
        }
    }

    private static void smallestTotals() {
        CHECK.sentence("V(8,k) >= 16 for k >= 1");
        PvqBandCodec x = new PvqBandCodec(1, 1, 1, 1);
        CHECK.due("pyramidSize(8, 1)", x.pyramidSize(8, 1), 16);
        for (int k = 2; k <= 16; k++) {
            CHECK.due("pyramidSize(8, " + k + ") > 16", x.pyramidSize(8, k) > 16, true);
        }
    }

    /**
     * No call indexes the empty vector, since vecIndex(0) is refused. It stands at the end of every
     * index: with one cell, the sums and V(0,0) leave I(empty;0,0) alone.
     */
    private static void indexOfTheEmptyVector() {
        CHECK.sentence("I(empty;0,0) = 0.");
        PvqBandCodec x = new PvqBandCodec(1, 1, 1, 1);
        CHECK.due("vecIndex(0)", x.vecIndex(0), -1000000);
        CHECK.due("vecIndex(1) of 0", x.vecIndex(1), 0);
        for (int k = 1; k <= 16; k++) {
            x.setVec(0, k);
            CHECK.due("vecIndex(1) of " + k, x.vecIndex(1), 0);
            x.setVec(0, -k);
            CHECK.due("vecIndex(1) of " + -k, x.vecIndex(1), 1);
        }
    }

    private static int[] signed(int m) {
        return m == 0 ? new int[] {0} : new int[] {m, -m};
    }

    private static void orderOfOneEntry() {
        CHECK.sentence("The order is: by |y0| ascending; for |y0| > 0 positive before negative; then by the rest.");
        PvqBandCodec x = new PvqBandCodec(1, 1, 1, 1);
        for (int k = 0; k <= 16; k++) {
            int due = 0;
            for (int m = 0; m <= k; m++) {
                for (int first : signed(m)) {
                    for (int rest : signed(k - m)) {
                        x.setVec(0, first);
                        x.setVec(1, rest);
                        CHECK.due("vecIndex(2) of " + first + " " + rest, x.vecIndex(2), due);
                        due++;
                    }
                }
            }
            CHECK.due("pyramidSize(2, " + k + ")", x.pyramidSize(2, k), due);
        }
    }

    /** The first vector has everything on its last cell; the last one is negative on its first cell. */
    private static void orderOfTheRest() {
        CHECK.sentence("I is a one-to-one map of P(n,k) onto [0,V(n,k)).");
        PvqBandCodec x = new PvqBandCodec(1, 1, 1, 1);
        for (int n = 1; n <= 8; n++) {
            for (int k = 1; k <= 16; k++) {
                int size = x.pyramidSize(n, k);
                dueAt(x, n, n - 1, k, 0);
                dueAt(x, n, n - 1, -k, 1);
                dueAt(x, n, 0, k, size - 2);
                dueAt(x, n, 0, -k, size - 1);
            }
        }
    }

    private static void dueAt(PvqBandCodec x, int n, int cell, int value, int due) {
        for (int i = 0; i < 8; i++) {
            x.setVec(i, i == cell ? value : 0);
        }
        CHECK.due("vecIndex(" + n + ") of " + value + " in cell " + cell, x.vecIndex(n), due);
    }

    private static int sum(PvqBandCodec x, int[] y, int from, int k) {
        if (from == y.length) {
            return 0;
        }
        int rest = y.length - from - 1;
        int m = Math.abs(y[from]);
        int sum = 0;
        for (int j = 0; j <= m - 1; j++) {
            sum += (j == 0 ? 1 : 2) * x.pyramidSize(rest, k - j);
        }
        sum += y[from] < 0 ? x.pyramidSize(rest, k - m) : 0;
        return sum + sum(x, y, from + 1, k - m);
    }

    /** Entries of 0, of 1, of all that is left and between, in every pyramid. */
    private static void indexByItsSum() {
        CHECK.sentence("I is the sum over j = 0..m-1 of w(j)*V(n-1,k-j), where w(0) = 1 and w(j) = 2 for j >= 1, plus"
                + " V(n-1,k-m) if y0 < 0, plus I((y1..y(n-1)); n-1, k-m).");
        PvqBandCodec x = new PvqBandCodec(1, 1, 1, 1);
        for (int n = 1; n <= 8; n++) {
            for (int k = 0; k <= 16; k++) {
                int stride = Model.size(n, k) / 400 + 1;
                for (int at = 0; at < Model.size(n, k); at += stride) {
                    int[] y = Model.unindex(n, k, at);
                    for (int i = 0; i < n; i++) {
                        x.setVec(i, y[i]);
                    }
                    CHECK.due("vecIndex(" + n + ") of " + java.util.Arrays.toString(y), x.vecIndex(n), sum(x, y, 0, k));
                }
            }
        }
    }

    private static void indicesAreOneToOne() {
        CHECK.sentence("Unindexing is its inverse.");
        PvqBandCodec x = new PvqBandCodec(1, 1, 1, 1);
        for (int n = 1; n <= 8; n++) {
            for (int k = 0; k <= 16 && x.pyramidSize(n, k) < 160000; k++) {
                for (int idx = 0; idx < x.pyramidSize(n, k); idx++) {
                    boolean done = x.vecUnindex(n, k, idx);
                    if (!done || x.vecIndex(n) != idx) {
                        CHECK.report("vecUnindex(" + n + ", " + k + ", " + idx + ") answered " + done
                                + " and vecIndex(" + n + ") then " + x.vecIndex(n));
                    }
                }
            }
        }
    }

    private static void lengthOfZero() {
        CHECK.sentence("bitlength(m) for m >= 0 is the number of binary digits of m; bitlength(0) = 0.");
        PvqBandCodec x = new PvqBandCodec(1, 1, 1, 1);
        x.setCoef(0, 1);
        x.encodeFrame();
        CHECK.due("energyQ(0, 0) of energy 1", x.energyQ(0, 0), 1);
        CHECK.due("energyQ(0, 3) of energy 0", x.energyQ(0, 3), 0);
        x.setCoef(0, 0);
        x.encodeFrame();
        CHECK.due("energyQ(0, 0) of energy 0", x.energyQ(0, 0), 0);
    }

    /** No energy reaches 2^33: eight squares of 32767 are 8589410312, which is 524280 less. */
    private static void lengthAtEveryPowerOfTwo() {
        CHECK.sentence("E = sum of x_j*x_j, computed exactly; q = bitlength(E), which lies in 0..33.");
        PvqBandCodec x = new PvqBandCodec(1, 1, 1, 1);
        for (int power = 0; power <= 32; power++) {
            dueLength(x, (1L << power) - 1, power);
            dueLength(x, 1L << power, power + 1);
        }
        dueLength(x, 8L * 32767 * 32767, 33);
    }

    private static void dueLength(PvqBandCodec x, long energy, int due) {
        int[] roots = new int[8];
        CHECK.due(energy + " is a sum of eight squares", squares(energy, roots, 0), true);
        Frames.setFrom(x, 16, roots);
        x.encodeFrame();
        CHECK.due("energyQ(0, 2) of energy " + energy, x.energyQ(0, 2), due);
    }

    private static boolean squares(long energy, int[] roots, int from) {
        if (from == 8) {
            return energy == 0;
        }
        int most = (int) Math.min(32767, Math.floor(Math.sqrt((double) energy)));
        for (int root = most; root >= Math.max(0, most - 2); root--) {
            roots[from] = root;
            if (squares(energy - (long) root * root, roots, from + 1)) {
                return true;
            }
        }
        return false;
    }

    /**
     * A second frame of the same energy codes q - p, which a decoder that has seen nothing takes for
     * its q; and one that has seen q adds it to p.
     */
    private static void predictionRoundsDown() {
        CHECK.sentence("Prediction from a remembered q (0..33): p = (3*q+2)/4, rounded down.");
        int[] k = {1, 1, 1, 1};
        for (int q = 0; q <= 33; q++) {
            PvqBandCodec x = Frames.codec(k);
            Frames.loudness(x, 1, q);
            x.encodeFrame();
            CHECK.due("energyQ(0, 1)", x.energyQ(0, 1), q);
            x.encodeFrame();
            x.decodeFrame();
            CHECK.due("energyQ(1, 1) after the second frame of q " + q, x.energyQ(1, 1), q - PREDICTED[q]);
            PvqBandCodec y = Frames.codec(k);
            Frames.put(y, SpelledEncoder.packet(k, new int[] {0, 2 * q, 0, 0}, new int[4]));
            y.decodeFrame();
            CHECK.due("energyQ(1, 1)", y.energyQ(1, 1), q);
            Frames.put(y, SpelledEncoder.packet(k, new int[4], new int[4]));
            y.decodeFrame();
            CHECK.due("energyQ(1, 1) after a residual of 0 from q " + q, y.energyQ(1, 1), PREDICTED[q]);
        }
    }
}
