/** Promise 1: the pulse counts are clamped and fixed; the state starts fresh. */
public final class Promise01ConstructionTest {
    private static final Check CHECK = new Check();

    private Promise01ConstructionTest() {}

    public static void main(String[] args) {
        clampsEachCount();
        keepsTheOrderOfTheCounts();
        startsFresh();
        keepsTheCounts();
        CHECK.finish();
    }

    /** A silent band puts all its pulses on its first position, which shows their count. */
    private static void dueCounts(String when, PvqBandCodec x, int... counts) {
        x.encodeFrame();
        x.decodeFrame();
        for (int b = 0; b < 4; b++) {
            CHECK.due(when + ": pulse(0, " + 8 * b + ")", x.pulse(0, 8 * b), counts[b]);
            CHECK.due(when + ": pulse(1, " + 8 * b + ")", x.pulse(1, 8 * b), counts[b]);
        }
    }

    private static void clampsEachCount() {
        int[] given = {Integer.MIN_VALUE, -1000000, -1, 0, 1, 2, 15, 16, 17, 100, 65537, Integer.MAX_VALUE};
        int[] kept = {1, 1, 1, 1, 1, 2, 15, 16, 16, 16, 16, 16};
        for (int i = 0; i < given.length; i++) {
            int k = given[i];
            int c = kept[i];
            dueCounts("first " + k, new PvqBandCodec(k, 5, 6, 7), c, 5, 6, 7);
            dueCounts("second " + k, new PvqBandCodec(5, k, 6, 7), 5, c, 6, 7);
            dueCounts("third " + k, new PvqBandCodec(5, 6, k, 7), 5, 6, c, 7);
            dueCounts("fourth " + k, new PvqBandCodec(5, 6, 7, k), 5, 6, 7, c);
        }
    }

    private static void keepsTheOrderOfTheCounts() {
        for (int k = 1; k <= 13; k++) {
            dueCounts("counts from " + k, new PvqBandCodec(k, k + 1, k + 2, k + 3), k, k + 1, k + 2, k + 3);
        }
    }

    private static void startsFresh() {
        String zeros8 = " 0".repeat(8);
        String zeros32 = " 0".repeat(32);
        PvqBandCodec x = new PvqBandCodec(1, 16, -4, 40);
        CHECK.due("inputs", State.inputs(x), "inputs" + zeros32);
        CHECK.due("encoder", State.encoder(x), "side 0 q 0 0 0 0 pulses" + zeros32);
        CHECK.due("decoder", State.decoder(x), "side 1 q 0 0 0 0 pulses" + zeros32 + " decoded" + zeros32);
        CHECK.due("packet", State.packet(x), "packet of 0");
        CHECK.due("scratch", State.scratch(x), "scratch" + zeros8);
        PvqBandCodec other = State.busy();
        CHECK.due("a busy object beside", State.whole(new PvqBandCodec(3, 7, 12, 16)),
                State.whole(x));
        CHECK.due("the busy object's packet is its own", other.packetLength() > 0, true);
    }

    private static void keepsTheCounts() {
        PvqBandCodec x = State.busy();
        for (int i = 0; i < 64; i++) {
            x.putByte(i, 255 - i);
        }
        x.decodeFrame();
        x.vecUnindex(8, 16, 15158271);
        for (int pos = 0; pos < 32; pos++) {
            x.setCoef(pos, 0);
        }
        dueCounts("after many calls", x, 3, 7, 12, 16);
    }
}
