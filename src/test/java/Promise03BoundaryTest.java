/** The boundary sentences of Promise 3: encoding a frame. The range encoder's own stand apart. */
public final class Promise03BoundaryTest {
    private static final Check CHECK = new Check();

    private Promise03BoundaryTest() {}

    public static void main(String[] args) {
        isNeverRefused();
        clearsTheOldPacket();
        measuresTheLeastAndTheGreatest();
        predictsFromZeroBeforeTheFirst();
        predictsFromTheLastFrame();
        keepsTheFirstOfEquals();
        replacesOnlyWhenStrictlyGreater();
        givesSilenceToTheFirstPosition();
        givesNoSignToZero();
        placesEveryPulse();
        keepsEveryBand();
        answersTheLength();
        changesNothingElse();
        CHECK.finish();
    }

    private static void isNeverRefused() {
        CHECK.sentence("encodeFrame() encodes one frame from the current inputs. It is never refused.");
        PvqBandCodec x = new PvqBandCodec(1, 1, 1, 1);
        CHECK.due("encodeFrame() on a fresh object", x.encodeFrame(), 8);
        CHECK.due("encodeFrame() once more", x.encodeFrame(), 8);
        x.decodeFrame();
        CHECK.due("encodeFrame() after decodeFrame", x.encodeFrame(), 8);
        for (int i = 0; i < 64; i++) {
            x.putByte(i, 255);
        }
        x.decodeFrame();
        CHECK.due("encodeFrame() over a full packet", x.encodeFrame(), 8);
        PvqBandCodec loud = new PvqBandCodec(16, 16, 16, 16);
        for (int pos = 0; pos < 32; pos++) {
            loud.setCoef(pos, Integer.MIN_VALUE);
        }
        CHECK.due("encodeFrame() of the loudest", loud.encodeFrame(), 20);
        for (int frame = 0; frame < 1000; frame++) {
            CHECK.due("encodeFrame() again and again", loud.encodeFrame() > 0, true);
        }
    }

    /** Were old bytes kept behind the new ones, the longer packet's end would show in the length. */
    private static void clearsTheOldPacket() {
        CHECK.sentence("The range encoder starts: the packet is cleared (all 64 cells 0) and its length is 0.");
        for (int old = 0; old <= 64; old++) {
            PvqBandCodec x = new PvqBandCodec(1, 1, 1, 1);
            for (int i = 0; i < old; i++) {
                x.putByte(i, 170);
            }
            CHECK.due("encodeFrame() over " + old + " bytes", x.encodeFrame(), 8);
            Frames.duePacket(CHECK, "over " + old + " bytes", x, 0, 48, 110, 179, 169, 62, 120, 0);
            CHECK.due("packetByte(63)", x.packetByte(63), -1000000);
            CHECK.due("putByte(9)", x.putByte(9, 1), false);
        }
    }

    private static void measuresTheLeastAndTheGreatest() {
        CHECK.sentence("q = bitlength(E), which lies in 0..33.");
        for (int band = 0; band < 4; band++) {
            for (int q = 0; q <= 33; q++) {
                PvqBandCodec x = new PvqBandCodec(3, 3, 3, 3);
                Frames.loudness(x, band, q);
                x.encodeFrame();
                for (int b = 0; b < 4; b++) {
                    CHECK.due("energyQ(0, " + b + ") of " + q + " in " + band, x.energyQ(0, b), b == band ? q : 0);
                }
            }
        }
    }

    private static void predictsFromZeroBeforeTheFirst() {
        CHECK.sentence("p = prediction from the encoder q of band b remembered from the last encodeFrame (0 before the"
                + " first)");
        PvqBandCodec x = new PvqBandCodec(1, 1, 1, 1);
        Frames.loudness(x, 0, 33);
        // Neither the decoder's memory nor a packet put in counts for the encoder.
        Frames.put(x, SpelledEncoder.packet(new int[] {1, 1, 1, 1}, new int[] {66, 66, 66, 66}, new int[4]));
        x.decodeFrame();
        CHECK.due("energyQ(1, 0)", x.energyQ(1, 0), 33);
        x.encodeFrame();
        Frames.duePacket(CHECK, "the first", x, 0, 255, 206, 141, 75, 56, 132, 0);
    }

    private static void predictsFromTheLastFrame() {
        CHECK.sentence("p = prediction from the encoder q of band b remembered from the last encodeFrame (0 before the"
                + " first)");
        PvqBandCodec x = new PvqBandCodec(1, 1, 1, 1);
        Frames.loudness(x, 0, 33);
        x.encodeFrame();
        Frames.loudness(x, 0, 0);
        x.encodeFrame();
        Frames.duePacket(CHECK, "silence after 33", x, 0, 226, 203, 35, 128, 56, 132, 0);
        x.encodeFrame();
        Frames.duePacket(CHECK, "silence after silence", x, 0, 48, 110, 179, 169, 62, 120, 0);
    }

    private static void duePulses(int k, int[] inputs, int... pulses) {
        for (int band = 0; band < 4; band++) {
            PvqBandCodec x = new PvqBandCodec(k, k, k, k);
            Frames.setFrom(x, 8 * band, inputs);
            x.encodeFrame();
            for (int j = 0; j < 8; j++) {
                CHECK.due("pulse " + j + " of " + k + " for " + java.util.Arrays.toString(inputs),
                        x.pulse(0, 8 * band + j), pulses[j]);
            }
        }
    }

    private static void searchSentence() {
        CHECK.sentence("the chosen j is the first one, and it is replaced by a later j only when num_j*den_chosen >"
                + " num_chosen*den_j (strictly).");
    }

    /** Equal inputs are filled from the first to the last, and then from the first again. */
    private static void keepsTheFirstOfEquals() {
        searchSentence();
        for (int loud : new int[] {1, 7, 23170, 32767}) {
            int[] equal = new int[8];
            java.util.Arrays.fill(equal, loud);
            for (int k = 1; k <= 16; k++) {
                int[] due = new int[8];
                for (int j = 0; j < k; j++) {
                    due[j % 8]++;
                }
                duePulses(k, equal, due);
            }
            duePulses(1, new int[] {0, 0, 0, 0, 0, 0, loud, -loud}, 0, 0, 0, 0, 0, 0, 1, 0);
            duePulses(1, new int[] {0, 0, 0, 0, 0, 0, -loud, loud}, 0, 0, 0, 0, 0, 0, -1, 0);
        }
    }

    private static void replacesOnlyWhenStrictlyGreater() {
        searchSentence();
        // One more is enough, at the last position and in the greatest numbers.
        duePulses(1, new int[] {32766, 32766, 32766, 32766, 32766, 32766, 32766, -32767}, 0, 0, 0, 0, 0, 0, 0, -1);
        duePulses(1, new int[] {0, 0, 0, 0, 0, 0, 0, 1}, 0, 0, 0, 0, 0, 0, 0, 1);
        duePulses(1, new int[] {32766, 32767, 0, 0, 0, 0, 0, 0}, 0, 1, 0, 0, 0, 0, 0, 0);
        // The second pulse: (C+C)^2/4 against (C+a)^2/2 turns between a = 13572 and a = 13573 of 32767.
        duePulses(2, new int[] {32767, 13572, 0, 0, 0, 0, 0, 0}, 2, 0, 0, 0, 0, 0, 0, 0);
        duePulses(2, new int[] {32767, 13573, 0, 0, 0, 0, 0, 0}, 1, 1, 0, 0, 0, 0, 0, 0);
        duePulses(2, new int[] {13572, 32767, 0, 0, 0, 0, 0, 0}, 0, 2, 0, 0, 0, 0, 0, 0);
        duePulses(2, new int[] {13573, 32767, 0, 0, 0, 0, 0, 0}, 1, 1, 0, 0, 0, 0, 0, 0);
    }

    private static void givesSilenceToTheFirstPosition() {
        CHECK.sentence("When all x_j are 0 every num_j is 0, so every pulse goes to j = 0.");
        for (int k = 1; k <= 16; k++) {
            duePulses(k, new int[8], k, 0, 0, 0, 0, 0, 0, 0);
        }
    }

    private static void givesNoSignToZero() {
        CHECK.sentence("The pulse is y_j = -m_j if x_j < 0, else m_j; so the sum of |y_j| is Kb.");
        duePulses(3, new int[] {-1, 0, 0, 0, 0, 0, 0, 0}, -3, 0, 0, 0, 0, 0, 0, 0);
        duePulses(3, new int[] {1, 0, 0, 0, 0, 0, 0, 0}, 3, 0, 0, 0, 0, 0, 0, 0);
        duePulses(16, new int[] {0, 0, 0, 0, 0, 0, 0, -1}, 0, 0, 0, 0, 0, 0, 0, -16);
        duePulses(16, new int[] {0, 0, 0, 0, 0, 0, 0, 1}, 0, 0, 0, 0, 0, 0, 0, 16);
        // A band that was below 0 and fell silent has no sign any more.
        PvqBandCodec x = new PvqBandCodec(4, 4, 4, 4);
        x.setCoef(0, -9);
        x.encodeFrame();
        CHECK.due("pulse(0, 0)", x.pulse(0, 0), -4);
        x.setCoef(0, 0);
        x.encodeFrame();
        CHECK.due("pulse(0, 0)", x.pulse(0, 0), 4);
    }

    private static void placesEveryPulse() {
        CHECK.sentence("so the sum of |y_j| is Kb.");
        Numbers numbers = new Numbers(3);
        for (int k = 1; k <= 16; k++) {
            PvqBandCodec x = new PvqBandCodec(k, 17 - k, k, 17 - k);
            for (int frame = 0; frame < 300; frame++) {
                x.setCoef(numbers.below(32), numbers.between(-32767, 32767) >> numbers.below(16));
                x.encodeFrame();
                for (int b = 0; b < 4; b++) {
                    int sum = 0;
                    for (int value : Frames.pulses(x, 0, b)) {
                        sum += Math.abs(value);
                    }
                    CHECK.due("the pulses of band " + b, sum, b % 2 == 0 ? k : 17 - k);
                }
            }
        }
    }

    private static void keepsEveryBand() {
        CHECK.sentence("The encoder q of band b becomes q; encoder pulses 8b..8b+7 become y.");
        PvqBandCodec x = new PvqBandCodec(1, 2, 3, 16);
        Frames.setFrom(x, 0, -1);
        Frames.setFrom(x, 15, 2);
        Frames.setFrom(x, 16, 3);
        Frames.setFrom(x, 31, -32767);
        x.encodeFrame();
        CHECK.due("the ends of the bands", State.encoder(x), "side 0 q 1 3 4 30 pulses"
                + " -1 0 0 0 0 0 0 0" + " 0 0 0 0 0 0 0 2" + " 3 0 0 0 0 0 0 0" + " 0 0 0 0 0 0 0 -16");
        Frames.setFrom(x, 0, 0, 0, 0, 0, 0, 0, 0, 5);
        x.encodeFrame();
        CHECK.due("one band anew", State.encoder(x), "side 0 q 5 3 4 30 pulses"
                + " 0 0 0 0 0 0 0 1" + " 0 0 0 0 0 0 0 2" + " 3 0 0 0 0 0 0 0" + " 0 0 0 0 0 0 0 -16");
    }

    /** No frame comes to 64 bytes, so none is cut there: RangeReachTest finds 20 at most. */
    private static void answersTheLength() {
        CHECK.sentence("The answer is the packet length afterwards, at most 64; bytes beyond 64 are dropped as emit"
                + " describes.");
        for (int k = 1; k <= 16; k++) {
            PvqBandCodec x = new PvqBandCodec(k, k, k, k);
            for (int q = 0; q <= 33; q++) {
                for (int b = 0; b < 4; b++) {
                    Frames.loudness(x, b, q);
                }
                int length = x.encodeFrame();
                CHECK.due("packetLength()", x.packetLength(), length);
                CHECK.due("at most 20", length >= 5 && length <= 20, true);
            }
        }
    }

    private static void changesNothingElse() {
        CHECK.sentence("encodeFrame does not change the input coefficients, the decoder q values, decoder pulses,"
                + " decoded coefficients, or the scratch vector.");
        PvqBandCodec x = State.busy();
        for (int frame = 0; frame < 40; frame++) {
            x.setCoef(frame % 32, 800 * frame);
            x.setVec(frame % 8, frame - 20);
            String inputs = State.inputs(x);
            String decoder = State.decoder(x);
            String scratch = State.scratch(x);
            x.encodeFrame();
            CHECK.due("inputs", State.inputs(x), inputs);
            CHECK.due("decoder", State.decoder(x), decoder);
            CHECK.due("scratch", State.scratch(x), scratch);
        }
    }
}
