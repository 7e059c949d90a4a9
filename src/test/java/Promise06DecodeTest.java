/** Promise 6: any packet decodes, and what was encoded comes back. */
public final class Promise06DecodeTest {
    private static final Check CHECK = new Check();
    private static final String ZEROS = " 0".repeat(32);
    private static final String LOUDEST = " -65536 0 0 0 0 0 0 0";

    private Promise06DecodeTest() {}

    public static void main(String[] args) {
        decodesTheEmptyPacket();
        decodesAllOnes();
        decodesAMadePacket();
        meetsTheRangeLimitExactly();
        readsZerosPastTheEnd();
        keepsTheRest();
        bringsFramesBack();
        remembersItsOwnEnergies();
        CHECK.finish();
    }

    private static PvqBandCodec made(int length, int factor, int offset, int... k) {
        PvqBandCodec x = new PvqBandCodec(k[0], k[1], k[2], k[3]);
        for (int i = 0; i < length; i++) {
            x.putByte(i, i * factor + offset);
        }
        return x;
    }

    /** Index 0 has all pulses on the last position. */
    private static void decodesTheEmptyPacket() {
        PvqBandCodec x = new PvqBandCodec(3, 7, 12, 16);
        for (int frame = 0; frame < 3; frame++) {
            x.decodeFrame();
            CHECK.due("empty", State.decoder(x), "side 1 q 0 0 0 0 pulses"
                    + " 0 0 0 0 0 0 0 3" + " 0 0 0 0 0 0 0 7" + " 0 0 0 0 0 0 0 12" + " 0 0 0 0 0 0 0 16"
                    + " decoded" + ZEROS);
            CHECK.due("empty", State.packet(x), "packet of 0");
        }
    }

    /** Values past the last symbol, past the last index part and past Q_MAX. */
    private static void decodesAllOnes() {
        PvqBandCodec x = made(64, 0, 255, 3, 7, 12, 16);
        for (int frame = 0; frame < 2; frame++) {
            x.decodeFrame();
            CHECK.due("all ones", State.decoder(x), "side 1 q 33 33 33 33 pulses"
                    + " -3 0 0 0 0 0 0 0" + " -7 0 0 0 0 0 0 0" + " -12 0 0 0 0 0 0 0" + " 14 0 0 0 -1 0 -1 0"
                    + " decoded" + LOUDEST + LOUDEST + LOUDEST + " 65204 0 0 0 -4657 0 -4657 0");
        }
        // With 11 and 13 pulses the two parts of the index can pass its end.
        PvqBandCodec y = made(64, 0, 255, 11, 13, 15, 1);
        y.decodeFrame();
        CHECK.due("all ones, odd counts", State.decoder(y), "side 1 q 33 33 2 0 pulses"
                + " -11 0 0 0 0 0 0 0" + " -13 0 0 0 0 0 0 0" + " 1 2 1 1 -2 -2 0 6" + " 0 0 0 0 0 1 0 0"
                + " decoded" + LOUDEST + LOUDEST + " 0 0 0 0 0 0 0 1" + " 0 0 0 0 0 0 0 0");
    }

    private static void decodesAMadePacket() {
        PvqBandCodec x = made(20, 37, 5, 3, 7, 12, 16);
        String pulses = " pulses 1 0 -2 0 0 0 0 0" + " 0 0 1 0 -1 1 -2 2" + " -3 -3 0 -1 -1 -1 2 -1" + " 7 0 -1 1 2 3 0 -2";
        String silent = " 0".repeat(24);
        x.decodeFrame();
        CHECK.due("made", State.decoder(x), "side 1 q 0 0 0 22" + pulses + " decoded" + silent
                + " 1229 0 -175 175 351 526 0 -351");
        x.decodeFrame();
        CHECK.due("made, again", State.decoder(x), "side 1 q 0 0 0 33" + pulses + " decoded" + silent
                + " 55631 0 -7947 7947 15894 23842 0 -15894");
    }

    /** Before its last band this packet's range is 16777216, the least that needs no more bytes. */
    private static void meetsTheRangeLimitExactly() {
        int[] bytes = {0, 50, 120, 200, 26, 240, 61, 191, 167, 21, 42, 124, 152, 0, 0};
        PvqBandCodec x = new PvqBandCodec(1, 16, 4, 12);
        for (int i = 0; i < bytes.length; i++) {
            x.putByte(i, bytes[i]);
        }
        x.decodeFrame();
        CHECK.due("range is 16777216", State.side(x, 1), "side 1 q 0 17 13 7 pulses"
                + " 1 0 0 0 0 0 0 0" + " 12 -4 0 0 0 0 0 0" + " 0 0 0 0 -4 0 0 0" + " 4 0 0 0 0 -6 0 2");
    }

    private static void readsZerosPastTheEnd() {
        for (int length = 0; length < 40; length++) {
            PvqBandCodec x = made(length, 91, 14, 5, 9, 14, 16);
            PvqBandCodec padded = made(length, 91, 14, 5, 9, 14, 16);
            for (int i = length; i < 64; i++) {
                padded.putByte(i, 0);
            }
            x.decodeFrame();
            padded.decodeFrame();
            CHECK.due("length " + length, State.decoder(x), State.decoder(padded));
            CHECK.due("packetLength()", x.packetLength(), length);
        }
    }

    private static void keepsTheRest() {
        PvqBandCodec x = State.busy();
        x.putByte(1, 99);
        x.putByte(x.packetLength(), 3);
        String inputs = State.inputs(x);
        String encoder = State.encoder(x);
        String packet = State.packet(x);
        String scratch = State.scratch(x);
        String decoder = State.decoder(x);
        x.decodeFrame();
        CHECK.due("inputs", State.inputs(x), inputs);
        CHECK.due("encoder", State.encoder(x), encoder);
        CHECK.due("packet", State.packet(x), packet);
        CHECK.due("scratch", State.scratch(x), scratch);
        CHECK.due("the decoder moved", State.decoder(x).equals(decoder), false);
    }

    private static void bringsFramesBack() {
        for (int run = 0; run < 200; run++) {
            Numbers numbers = new Numbers(run);
            PvqBandCodec x = new PvqBandCodec(run % 16 + 1, numbers.between(1, 16), numbers.between(1, 16), 16 - run % 16);
            for (int frame = 0; frame < 40; frame++) {
                int loudness = 1 << numbers.below(16);
                int changes = numbers.below(33);
                for (int i = 0; i < changes; i++) {
                    x.setCoef(numbers.below(32), numbers.between(-loudness, loudness));
                }
                x.encodeFrame();
                x.setVec(numbers.below(8), frame);
                x.putByte(-1, frame);
                x.putByte(64, frame);
                x.setCoef(numbers.below(32), frame);
                x.decodeFrame();
                String when = "run " + run + " frame " + frame;
                CHECK.due(when, State.side(x, 1).replace("side 1", "side 0"), State.side(x, 0));
                CHECK.due(when + ": at most 64", x.packetLength() <= 64, true);
                dueSpectrum(when, x);
            }
        }
    }

    /** Each decoded coefficient is the greatest whole root that its band's energy leaves it. */
    private static void dueSpectrum(String when, PvqBandCodec x) {
        for (int pos = 0; pos < 32; pos++) {
            int q = x.energyQ(1, pos / 8);
            long y = x.pulse(1, pos);
            long squares = 0;
            for (int j = pos / 8 * 8; j < pos / 8 * 8 + 8; j++) {
                squares += (long) x.pulse(1, j) * x.pulse(1, j);
            }
            long got = x.decodedCoef(pos);
            if (q == 0 || y == 0) {
                CHECK.due(when + ": decodedCoef(" + pos + ")", got, 0);
                continue;
            }
            long share = (1L << (q - 1)) * y * y / squares;
            boolean whole = got * got <= share && (Math.abs(got) + 1) * (Math.abs(got) + 1) > share;
            boolean sided = got == 0 || (got < 0) == (y < 0);
            CHECK.due(when + ": decodedCoef(" + pos + ") is " + got, whole && sided, true);
        }
    }

    /** A decoder that missed a frame predicts from the one it saw. */
    private static void remembersItsOwnEnergies() {
        PvqBandCodec x = new PvqBandCodec(1, 1, 1, 1);
        x.setCoef(0, 32767);
        x.encodeFrame();
        x.encodeFrame();
        CHECK.due("energyQ(0, 0)", x.energyQ(0, 0), 30);
        x.decodeFrame();
        // The second frame codes 30 - (3*30+2)/4 = 7, and the decoder starts from 0.
        CHECK.due("energyQ(1, 0)", x.energyQ(1, 0), 7);
        x.decodeFrame();
        CHECK.due("energyQ(1, 0)", x.energyQ(1, 0), 5 + 7);
    }
}
