/** Promise 3: a frame's energies, pulses and packet. The packets were worked out apart. */
public final class Promise03EncodeTest {
    private static final Check CHECK = new Check();

    private Promise03EncodeTest() {}

    public static void main(String[] args) {
        codesSilence();
        codesTwoFrames();
        codesTheLoudestAndThenSilence();
        carries();
        meetsTheLimitsExactly();
        measuresEnergies();
        placesPulses();
        keepsTheRest();
        clearsTheOldPacket();
        CHECK.finish();
    }

    private static void duePacket(String when, PvqBandCodec x, int... bytes) {
        CHECK.due(when + ": encodeFrame()", x.encodeFrame(), bytes.length);
        CHECK.due(when + ": packetLength()", x.packetLength(), bytes.length);
        for (int i = 0; i < bytes.length; i++) {
            CHECK.due(when + ": packetByte(" + i + ")", x.packetByte(i), bytes[i]);
        }
        CHECK.due(when + ": packetByte(" + bytes.length + ")", x.packetByte(bytes.length), -1000000);
    }

    private static void codesSilence() {
        duePacket("one pulse", new PvqBandCodec(1, 1, 1, 1), 0, 48, 110, 179, 169, 62, 120, 0);
        duePacket("sixteen pulses", new PvqBandCodec(16, 16, 16, 16),
                0, 54, 156, 207, 108, 0, 127, 98, 128, 209, 225, 251, 228, 34, 200, 240, 0, 0);
    }

    private static void codesTwoFrames() {
        PvqBandCodec x = new PvqBandCodec(3, 7, 12, 16);
        for (int i = 0; i < 32; i++) {
            x.setCoef(i, (i % 5 - 2) * (37 * i + 11));
        }
        duePacket("frame 1", x, 0, 206, 163, 230, 163, 198, 245, 160, 192, 40, 55, 170, 173, 81, 214, 0, 0);
        CHECK.due("frame 1", State.encoder(x), "side 0 q 19 22 23 25 pulses"
                + " 0 0 0 0 1 -1 -1 0" + " 0 1 -1 0 0 1 2 -2" + " -1 0 1 3 -3 -2 0 2" + " 3 -3 -1 0 1 3 -3 -2");
        x.setCoef(0, 0);
        x.setCoef(9, 20640);
        duePacket("frame 2", x, 0, 158, 218, 110, 63, 132, 162, 242, 196, 36, 200, 24, 11, 81, 214, 0, 0);
        CHECK.due("frame 2", State.encoder(x), "side 0 q 19 29 23 25 pulses"
                + " 0 0 0 0 1 -1 -1 0" + " 0 7 0 0 0 0 0 0" + " -1 0 1 3 -3 -2 0 2" + " 3 -3 -1 0 1 3 -3 -2");
    }

    /** The residuals 33 and -25, and then 0 again. */
    private static void codesTheLoudestAndThenSilence() {
        PvqBandCodec x = new PvqBandCodec(16, 15, 13, 11);
        for (int i = 0; i < 32; i++) {
            x.setCoef(i, i % 2 == 1 ? 32767 : -32767);
        }
        duePacket("loud", x, 0, 255, 102, 19, 60, 145, 243, 204, 115, 170, 126, 156, 6, 21, 111, 194, 205, 96, 0);
        CHECK.due("loud", State.encoder(x), "side 0 q 33 33 33 33 pulses"
                + " -2 2 -2 2 -2 2 -2 2" + " -2 2 -2 2 -2 2 -2 1" + " -2 2 -2 2 -2 1 -1 1" + " -2 2 -2 1 -1 1 -1 1");
        for (int i = 0; i < 32; i++) {
            x.setCoef(i, 0);
        }
        duePacket("silent", x, 0, 226, 252, 18, 77, 230, 65, 224, 172, 138, 219, 89, 27, 31, 234, 182, 212, 208, 0);
        duePacket("silent again", x, 0, 54, 156, 207, 108, 0, 135, 203, 208, 184, 57, 36, 148, 100, 48, 0, 0);
    }

    /** Frames in which bytes wait for a carry: one that comes, one that does not, and two bytes. */
    private static void carries() {
        duePacket("carry", single(1, 0, 1), 0, 106, 34, 222, 228, 145, 4, 0);
        duePacket("a 255 waits", single(1, 0, -1), 0, 107, 215, 198, 255, 145, 4, 0);
        duePacket("carry over a 255", single(1, 4, 2), 0, 146, 0, 47, 25, 124, 44, 0);
        duePacket("two wait", single(4, 20, 5), 0, 54, 148, 32, 255, 255, 10, 152, 114, 164, 204, 0);
    }

    /** Frames, searched out, in which low or range stands on the very limit that it is compared with. */
    private static void meetsTheLimitsExactly() {
        PvqBandCodec low = new PvqBandCodec(6, 13, 1, 1);
        setFrom(low, 0, 0, -16, -8, 0, 8, -8, 8, 0, 44, 44, 0, 88, -22, 66, 22, 0);
        duePacket("low is 4294967296", low, 0, 176, 133, 204, 0, 0, 0, 6, 1, 116, 200, 168);
        PvqBandCodec below = new PvqBandCodec(3, 15, 1, 1);
        setFrom(below, 0, 0, -419, 0, 0, 0, -419, 419, 0, 4, 4, 24, -8, 4, -8, 8, 0);
        duePacket("low is 4278190079", below, 0, 210, 219, 254, 255, 255, 255, 89, 217, 61, 220, 0);
        PvqBandCodec range = new PvqBandCodec(1, 16, 4, 12);
        setFrom(range, 8, 300, -100);
        setFrom(range, 20, -70, 0, 0, 0, 5, 0, 0, 0, 0, -9, 0, 3);
        duePacket("range is 16777216", range, 0, 50, 120, 200, 26, 240, 61, 191, 167, 21, 42, 124, 152, 0, 0);
    }

    private static void setFrom(PvqBandCodec x, int from, int... values) {
        for (int i = 0; i < values.length; i++) {
            x.setCoef(from + i, values[i]);
        }
    }

    private static PvqBandCodec single(int k, int pos, int value) {
        PvqBandCodec x = new PvqBandCodec(k, k, k, k);
        x.setCoef(pos, value);
        return x;
    }

    private static void measuresEnergies() {
        int[] values = {0, 1, -1, 2, 3, 4, 255, 256, -256, 32767, -32767};
        int[] qs = {0, 1, 1, 3, 4, 5, 16, 17, 17, 30, 30};
        for (int i = 0; i < values.length; i++) {
            for (int pos = 0; pos < 32; pos++) {
                PvqBandCodec x = single(2, pos, values[i]);
                x.encodeFrame();
                for (int band = 0; band < 4; band++) {
                    CHECK.due("energyQ(0, " + band + ") of " + values[i] + " at " + pos,
                            x.energyQ(0, band), band == pos / 8 ? qs[i] : 0);
                }
            }
        }
        // Four squares of 32767 stay below 2^32, five pass it: more than an int or its sign holds.
        PvqBandCodec x = new PvqBandCodec(2, 2, 2, 2);
        int[] sums = {30, 31, 32, 32, 33, 33, 33, 33};
        for (int j = 0; j < 8; j++) {
            x.setCoef(8 + j, -32767);
            x.encodeFrame();
            CHECK.due("energyQ(0, 1) of " + (j + 1) + " loudest", x.energyQ(0, 1), sums[j]);
        }
    }

    private static void duePulses(int k, int[] inputs, int... pulses) {
        PvqBandCodec x = new PvqBandCodec(1, 1, k, 1);
        for (int j = 0; j < 8; j++) {
            x.setCoef(16 + j, inputs[j]);
        }
        x.encodeFrame();
        for (int j = 0; j < 8; j++) {
            CHECK.due("pulse " + j + " of " + k + " for " + java.util.Arrays.toString(inputs),
                    x.pulse(0, 16 + j), pulses[j]);
        }
    }

    private static void placesPulses() {
        duePulses(16, new int[8], 16, 0, 0, 0, 0, 0, 0, 0);
        duePulses(1, new int[] {0, 0, 0, 0, 0, 0, 0, -1}, 0, 0, 0, 0, 0, 0, 0, -1);
        duePulses(16, new int[] {0, 0, 0, 0, 0, 0, 0, -32767}, 0, 0, 0, 0, 0, 0, 0, -16);
        // Equal ones: the first keeps its place.
        duePulses(1, new int[] {0, 5, -5, 5, 0, 0, 0, 5}, 0, 1, 0, 0, 0, 0, 0, 0);
        duePulses(2, new int[] {0, -5, -5, 5, 0, 0, 0, 5}, 0, -1, -1, 0, 0, 0, 0, 0);
        duePulses(9, new int[] {3, 3, 3, 3, 3, 3, 3, 3}, 2, 1, 1, 1, 1, 1, 1, 1);
        // 2 and 1 with two pulses: (2+2)^2/4 = 4 against (2+1)^2/2 = 4.5.
        duePulses(2, new int[] {2, 1, 0, 0, 0, 0, 0, 0}, 1, 1, 0, 0, 0, 0, 0, 0);
        // 5 and 2: (5+5)^2/4 = 25 against (5+2)^2/2 = 24.5.
        duePulses(2, new int[] {2, 0, 0, 5, 0, 0, 0, 0}, 0, 0, 0, 2, 0, 0, 0, 0);
        duePulses(16, new int[] {32767, -32767, 32767, -32767, 32767, -32767, 32767, -32767},
                2, -2, 2, -2, 2, -2, 2, -2);
    }

    private static void keepsTheRest() {
        PvqBandCodec x = State.busy();
        String inputs = State.inputs(x);
        String decoder = State.decoder(x);
        String scratch = State.scratch(x);
        String encoder = State.encoder(x);
        x.encodeFrame();
        CHECK.due("inputs", State.inputs(x), inputs);
        CHECK.due("decoder", State.decoder(x), decoder);
        CHECK.due("scratch", State.scratch(x), scratch);
        CHECK.due("the encoder moved", State.encoder(x).equals(encoder), false);
    }

    private static void clearsTheOldPacket() {
        PvqBandCodec x = new PvqBandCodec(1, 1, 1, 1);
        for (int i = 0; i < 64; i++) {
            x.putByte(i, 200);
        }
        duePacket("over a full packet", x, 0, 48, 110, 179, 169, 62, 120, 0);
        // The edited packet did not touch the encoder's memory.
        duePacket("once more", x, 0, 48, 110, 179, 169, 62, 120, 0);
    }
}
