/** Promise 8: the decoded coefficients, 0 before the first decodeFrame, NONE outside. */
public final class Promise08SpectrumTest {
    private static final Check CHECK = new Check();

    private Promise08SpectrumTest() {}

    public static void main(String[] args) {
        PvqBandCodec x = new PvqBandCodec(1, 2, 3, 4);
        x.setCoef(7, -3);
        x.setCoef(8, 16);
        x.setCoef(23, 100);
        x.setCoef(30, 32767);
        x.setCoef(31, -32767);
        due(x, "fresh", 0, 0, 0, 0, 0);
        x.encodeFrame();
        due(x, "encoded", 0, 0, 0, 0, 0);
        x.decodeFrame();
        // Roots of 2^3, 2^8, 2^13, and of 2^30 * 4 / 8.
        due(x, "decoded", -2, 16, 90, 23170, -23170);
        x.setCoef(7, 0);
        x.encodeFrame();
        due(x, "encoded again", -2, 16, 90, 23170, -23170);
        String before = State.whole(x);
        refusesOutside(x);
        CHECK.due("state after reading", State.whole(x), before);
        CHECK.finish();
    }

    private static void due(PvqBandCodec x, String when, int at7, int at8, int at23, int at30, int at31) {
        for (int pos = 0; pos < 32; pos++) {
            int want = pos == 7 ? at7 : pos == 8 ? at8 : pos == 23 ? at23 : pos == 30 ? at30 : pos == 31 ? at31 : 0;
            CHECK.due(when + ": decodedCoef(" + pos + ")", x.decodedCoef(pos), want);
        }
    }

    private static void refusesOutside(PvqBandCodec x) {
        int[] outside = {Integer.MIN_VALUE, -1000000, -32, -1, 32, 33, 63, 64, 65536, Integer.MAX_VALUE};
        for (int pos : outside) {
            CHECK.due("decodedCoef(" + pos + ")", x.decodedCoef(pos), -1000000);
        }
    }
}
