/** The boundary sentences of Promise 7: energies and pulses of each side. */
public final class Promise07BoundaryTest {
    private static final Check CHECK = new Check();
    private static final int MIN = Integer.MIN_VALUE;
    private static final int MAX = Integer.MAX_VALUE;
    private static final int[] NO_SIDE = {MIN, MIN + 1, -1000000, -2, -1, 2, 3, 4, 1 << 30, MAX};
    private static final int[] NO_BAND = {MIN, -1000000, -5, -4, -3, -2, -1, 4, 5, 6, 7, 8, 1 << 30, MAX};
    private static final int[] NO_POS = {MIN, -1000000, -33, -32, -31, -1, 32, 33, 63, 64, 1 << 27, MAX};

    private Promise07BoundaryTest() {}

    public static void main(String[] args) {
        energyRefusesSides();
        energyRefusesBands();
        energiesReachBothEnds();
        energyChangesNothing();
        pulseRefusesSides();
        pulseRefusesPositions();
        pulsesReachBothEnds();
        pulseChangesNothing();
        CHECK.finish();
    }

    /** Both sides differ from each other and from 0 at their first and last place. */
    private static PvqBandCodec apart() {
        int[] k = {16, 16, 16, 16};
        PvqBandCodec x = Frames.codec(k);
        for (int pos = 0; pos < 32; pos++) {
            x.setCoef(pos, pos == 31 ? 32767 : pos == 0 ? -32767 : 0);
        }
        x.encodeFrame();
        int last = 15158271;
        Frames.put(x, SpelledEncoder.packet(k, new int[] {66, 14, 16, 66}, new int[] {last - 1, last, 0, 1}));
        x.decodeFrame();
        return x;
    }

    private static void energySentence() {
        CHECK.sentence("energyQ(side, band): side must be ENCODER or DECODER and band must be in 0..3, examined in that"
                + " order; otherwise NONE.");
    }

    /** Which of the two is examined first can't be seen: each alone and both together answer NONE. */
    private static void energyRefusesSides() {
        energySentence();
        PvqBandCodec x = apart();
        for (int side : NO_SIDE) {
            for (int band = 0; band < 4; band++) {
                CHECK.due("energyQ(" + side + ", " + band + ")", x.energyQ(side, band), -1000000);
            }
            for (int band : NO_BAND) {
                CHECK.due("energyQ(" + side + ", " + band + ")", x.energyQ(side, band), -1000000);
            }
        }
    }

    private static void energyRefusesBands() {
        energySentence();
        PvqBandCodec x = apart();
        for (int side = 0; side < 2; side++) {
            for (int band : NO_BAND) {
                CHECK.due("energyQ(" + side + ", " + band + ")", x.energyQ(side, band), -1000000);
            }
        }
    }

    private static void energiesReachBothEnds() {
        CHECK.sentence("Answers that side's current q of the band, in 0..33.");
        PvqBandCodec x = apart();
        int[][] due = {{30, 0, 0, 30}, {33, 7, 8, 33}};
        for (int side = 0; side < 2; side++) {
            for (int band = 0; band < 4; band++) {
                CHECK.due("energyQ(" + side + ", " + band + ")", x.energyQ(side, band), due[side][band]);
            }
        }
        CHECK.due("energyQ(ENCODER, 3)", x.energyQ(PvqBandCodec.ENCODER, 3), 30);
        CHECK.due("energyQ(DECODER, 3)", x.energyQ(PvqBandCodec.DECODER, 3), 33);
        for (int b = 0; b < 4; b++) {
            Frames.loudness(x, b, b % 2 == 0 ? 33 : 0);
        }
        x.encodeFrame();
        for (int b = 0; b < 4; b++) {
            CHECK.due("energyQ(0, " + b + ")", x.energyQ(0, b), b % 2 == 0 ? 33 : 0);
            CHECK.due("energyQ(1, " + b + ") stays", x.energyQ(1, b), due[1][b]);
        }
    }

    private static void energyChangesNothing() {
        CHECK.sentence("energyQ ... Changes nothing.");
        Twins twins = new Twins(Promise07BoundaryTest::apart);
        for (int side = -2; side <= 3; side++) {
            for (int band = -9; band <= 9; band++) {
                twins.touched.energyQ(side, band);
            }
        }
        twins.dueSame(CHECK, "energyQ");
    }

    private static void pulseSentence() {
        CHECK.sentence("pulse(side, pos): side must be ENCODER or DECODER and pos must be in 0..31, examined in that"
                + " order; otherwise NONE.");
    }

    private static void pulseRefusesSides() {
        pulseSentence();
        PvqBandCodec x = apart();
        for (int side : NO_SIDE) {
            for (int pos = 0; pos < 32; pos++) {
                CHECK.due("pulse(" + side + ", " + pos + ")", x.pulse(side, pos), -1000000);
            }
            for (int pos : NO_POS) {
                CHECK.due("pulse(" + side + ", " + pos + ")", x.pulse(side, pos), -1000000);
            }
        }
    }

    private static void pulseRefusesPositions() {
        pulseSentence();
        PvqBandCodec x = apart();
        for (int side = 0; side < 2; side++) {
            for (int pos : NO_POS) {
                CHECK.due("pulse(" + side + ", " + pos + ")", x.pulse(side, pos), -1000000);
            }
        }
    }

    private static void pulsesReachBothEnds() {
        CHECK.sentence("Answers that side's current pulse at pos, in -16..16.");
        PvqBandCodec x = apart();
        for (int pos = 0; pos < 32; pos++) {
            int encoder = pos == 0 ? -16 : pos == 8 || pos == 16 || pos == 31 ? 16 : 0;
            int decoder = pos == 0 || pos == 23 ? 16 : pos == 8 || pos == 31 ? -16 : 0;
            CHECK.due("pulse(0, " + pos + ")", x.pulse(0, pos), encoder);
            CHECK.due("pulse(1, " + pos + ")", x.pulse(1, pos), decoder);
        }
    }

    private static void pulseChangesNothing() {
        CHECK.sentence("pulse ... Changes nothing.");
        Twins twins = new Twins(Promise07BoundaryTest::apart);
        for (int side = -2; side <= 3; side++) {
            for (int pos = -33; pos <= 65; pos++) {
                twins.touched.pulse(side, pos);
            }
        }
        twins.dueSame(CHECK, "pulse");
    }
}
