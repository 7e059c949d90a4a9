/** Promise 7: each side's energies and pulses, and NONE outside. */
public final class Promise07SidesTest {
    private static final Check CHECK = new Check();
    private static final int[] NO_SIDE = {Integer.MIN_VALUE, -1000000, -1, 2, 3, 32, Integer.MAX_VALUE};
    private static final int[] NO_BAND = {Integer.MIN_VALUE, -1000000, -4, -1, 4, 5, 8, 31, Integer.MAX_VALUE};
    private static final int[] NO_POS = {Integer.MIN_VALUE, -1000000, -32, -1, 32, 33, 63, 64, Integer.MAX_VALUE};

    private Promise07SidesTest() {}

    public static void main(String[] args) {
        PvqBandCodec x = apart();
        String before = State.whole(x);
        tellsTheSidesApart(x);
        refusesOutside(x);
        CHECK.due("state after reading", State.whole(x), before);
        staysInBounds();
        CHECK.finish();
    }

    /** An object whose sides differ: the decoder saw the first frame only. */
    private static PvqBandCodec apart() {
        PvqBandCodec x = new PvqBandCodec(1, 2, 3, 4);
        x.setCoef(7, -3);
        x.setCoef(8, 16);
        x.setCoef(23, 100);
        x.setCoef(31, -32767);
        x.encodeFrame();
        x.decodeFrame();
        for (int pos = 0; pos < 32; pos++) {
            x.setCoef(pos, 0);
        }
        x.setCoef(1, 1);
        x.setCoef(15, -2);
        x.encodeFrame();
        return x;
    }

    private static void tellsTheSidesApart(PvqBandCodec x) {
        int[] encoderQ = {1, 3, 0, 0};
        int[] decoderQ = {4, 9, 14, 30};
        for (int band = 0; band < 4; band++) {
            CHECK.due("energyQ(0, " + band + ")", x.energyQ(0, band), encoderQ[band]);
            CHECK.due("energyQ(1, " + band + ")", x.energyQ(1, band), decoderQ[band]);
        }
        for (int pos = 0; pos < 32; pos++) {
            int encoder = pos == 1 ? 1 : pos == 15 ? -2 : pos == 16 ? 3 : pos == 24 ? 4 : 0;
            int decoder = pos == 7 ? -1 : pos == 8 ? 2 : pos == 23 ? 3 : pos == 31 ? -4 : 0;
            CHECK.due("pulse(0, " + pos + ")", x.pulse(0, pos), encoder);
            CHECK.due("pulse(1, " + pos + ")", x.pulse(1, pos), decoder);
        }
    }

    private static void refusesOutside(PvqBandCodec x) {
        for (int side : NO_SIDE) {
            for (int at = -1; at < 33; at++) {
                CHECK.due("energyQ(" + side + ", " + at + ")", x.energyQ(side, at), -1000000);
                CHECK.due("pulse(" + side + ", " + at + ")", x.pulse(side, at), -1000000);
            }
        }
        for (int side = 0; side < 2; side++) {
            for (int band : NO_BAND) {
                CHECK.due("energyQ(" + side + ", " + band + ")", x.energyQ(side, band), -1000000);
            }
            for (int pos : NO_POS) {
                CHECK.due("pulse(" + side + ", " + pos + ")", x.pulse(side, pos), -1000000);
            }
        }
    }

    private static void staysInBounds() {
        Numbers numbers = new Numbers(7);
        PvqBandCodec x = new PvqBandCodec(16, 16, 11, 6);
        for (int frame = 0; frame < 500; frame++) {
            for (int i = 0; i < 64; i++) {
                x.putByte(i, numbers.below(256));
            }
            x.decodeFrame();
            for (int band = 0; band < 4; band++) {
                int q = x.energyQ(1, band);
                CHECK.due("energyQ(1, " + band + ") in 0..33", q >= 0 && q <= 33, true);
            }
            for (int pos = 0; pos < 32; pos++) {
                int y = x.pulse(1, pos);
                CHECK.due("pulse(1, " + pos + ") in -16..16", y >= -16 && y <= 16, true);
            }
        }
    }
}
