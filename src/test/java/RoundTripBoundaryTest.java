/** The sentence 'Round trip' of Promise 6, from the first frame on, at the ends of what a frame can hold. */
public final class RoundTripBoundaryTest {
    private static final Check CHECK = new Check();

    private RoundTripBoundaryTest() {}

    public static void main(String[] args) {
        CHECK.sentence("in any sequence of calls on an object from its construction on in which the state-changing"
                + " packet calls occur as encodeFrame, decodeFrame, encodeFrame, decodeFrame, and so on (each"
                + " decodeFrame directly after an encodeFrame, with no successful putByte anywhere), after every"
                + " decodeFrame energyQ(DECODER,b) = energyQ(ENCODER,b) for b = 0..3, pulse(DECODER,p) ="
                + " pulse(ENCODER,p) for p = 0..31, and the packet length is at most 64.");
        silence();
        everyEnergyAfterEveryOther();
        theEndsOfEveryPyramid();
        theFramesOnTheCodersLimits();
        otherCallsBetween();
        refusedEditsBetween();
        longRuns();
        CHECK.finish();
    }

    private static void trip(String when, PvqBandCodec x) {
        int length = x.encodeFrame();
        x.decodeFrame();
        dueEqual(when, x, length);
    }

    private static void dueEqual(String when, PvqBandCodec x, int length) {
        for (int b = 0; b < 4; b++) {
            CHECK.due(when + ": energyQ(1, " + b + ")", x.energyQ(1, b), x.energyQ(0, b));
        }
        for (int pos = 0; pos < 32; pos++) {
            CHECK.due(when + ": pulse(1, " + pos + ")", x.pulse(1, pos), x.pulse(0, pos));
        }
        CHECK.due(when + ": packetLength()", x.packetLength(), length);
        CHECK.due(when + ": at most 64", length <= 64, true);
    }

    private static void silence() {
        for (int k = 1; k <= 16; k++) {
            PvqBandCodec x = new PvqBandCodec(k, k, k, k);
            trip("the first silence of " + k, x);
            trip("the second silence of " + k, x);
        }
    }

    private static void everyEnergyAfterEveryOther() {
        for (int before = 0; before <= 33; before++) {
            for (int q = 0; q <= 33; q++) {
                PvqBandCodec x = new PvqBandCodec(1 + q % 16, 16, 1, 1 + before % 16);
                for (int b = 0; b < 4; b++) {
                    Frames.loudness(x, b, b % 2 == 0 ? before : q);
                }
                trip(before + " first", x);
                for (int b = 0; b < 4; b++) {
                    Frames.loudness(x, b, b % 2 == 0 ? q : before);
                }
                trip(q + " after " + before, x);
            }
        }
    }

    private static void theEndsOfEveryPyramid() {
        int[][] places = {{0, 1}, {0, -1}, {7, 1}, {7, -1}};
        for (int k = 1; k <= 16; k++) {
            PvqBandCodec x = new PvqBandCodec(k, k, k, k);
            for (int turn = 0; turn < 4; turn++) {
                for (int b = 0; b < 4; b++) {
                    Frames.setFrom(x, 8 * b, 0, 0, 0, 0, 0, 0, 0, 0);
                    int[] place = places[(turn + b) % 4];
                    x.setCoef(8 * b + place[0], 32767 * place[1]);
                }
                trip("the ends of " + k + ", turn " + turn, x);
                for (int b = 0; b < 4; b++) {
                    int[] place = places[(turn + b) % 4];
                    CHECK.due("pulse(1, " + (8 * b + place[0]) + ")", x.pulse(1, 8 * b + place[0]), k * place[1]);
                }
            }
        }
    }

    /** Frames of the range encoder's test, where low or range stands on a limit or bytes wait. */
    private static void theFramesOnTheCodersLimits() {
        int[][] k = {{1, 10, 1, 1}, {1, 16, 1, 1}, {2, 8, 1, 1}, {2, 10, 1, 1}, {4, 16, 9, 1}, {4, 16, 1, 5}, {1, 1, 1, 1}};
        int[][][] bands = {
            {{0, 0, 2}, {-3655, -731, -1462, 0, 0, -731, 0, 731}, {}},
            {{0, 0, 0, 0, 0, 0, -16}, {8878, 22195, 13317, -17756, -4439, 0, 0, 4439}, {}},
            {{0, -1, 0, 1}, {-4, -4, 0, 0, 0, 4, -8, 12}, {}},
            {{0, 2, 0, 0, 0, 0, 0, 2}, {0, -20, -10, -20, 20, 0, 30}, {}},
            {{}, {0, 0, 5}, {-1}},
            {{}, {}, {1, -1}},
            {{-1}, {}, {}}
        };
        for (int i = 0; i < k.length; i++) {
            PvqBandCodec x = Frames.codec(k[i]);
            for (int b = 0; b < 3; b++) {
                Frames.setFrom(x, 8 * b, bands[i][b]);
            }
            trip("frame " + i, x);
            trip("frame " + i + " again", x);
        }
    }

    /** All calls that leave the packet alone, between encodeFrame and decodeFrame and after them. */
    private static void otherCallsBetween() {
        CHECK.sentence("Other calls (such as setCoef or the scratch calls) may be interleaved freely.");
        PvqBandCodec x = new PvqBandCodec(16, 9, 4, 1);
        Numbers numbers = new Numbers(66);
        for (int frame = 0; frame < 300; frame++) {
            others(x, numbers);
            int length = x.encodeFrame();
            others(x, numbers);
            x.decodeFrame();
            others(x, numbers);
            dueEqual("frame " + frame, x, length);
        }
    }

    private static void others(PvqBandCodec x, Numbers numbers) {
        x.setCoef(numbers.between(-1, 32), numbers.between(-40000, 40000));
        x.setVec(numbers.between(-1, 8), numbers.between(-20, 20));
        x.vecIndex(numbers.between(0, 9));
        x.vecUnindex(numbers.between(0, 9), numbers.between(-1, 17), numbers.between(-1, 50));
        x.pyramidSize(numbers.between(-1, 9), numbers.between(-1, 17));
        x.packetByte(numbers.between(-1, 64));
        State.whole(x);
    }

    /** Only a putByte that succeeds ends the promise. */
    private static void refusedEditsBetween() {
        PvqBandCodec x = new PvqBandCodec(2, 7, 13, 16);
        Numbers numbers = new Numbers(67);
        for (int frame = 0; frame < 300; frame++) {
            x.setCoef(numbers.below(32), numbers.between(-32767, 32767) >> numbers.below(16));
            CHECK.due("putByte(-1)", x.putByte(-1, 255), false);
            int length = x.encodeFrame();
            for (int i : new int[] {Integer.MIN_VALUE, -1, length + 1, 63, 64, Integer.MAX_VALUE}) {
                CHECK.due("putByte(" + i + ")", x.putByte(i, 255), false);
            }
            x.decodeFrame();
            dueEqual("frame " + frame, x, length);
        }
    }

    private static void longRuns() {
        for (int run = 0; run < 64; run++) {
            Numbers numbers = new Numbers(6400 + run);
            PvqBandCodec x = new PvqBandCodec(
                    1 + run % 16, numbers.between(1, 16), numbers.between(1, 16), 16 - run % 16);
            for (int frame = 0; frame < 200; frame++) {
                int shift = numbers.below(17);
                for (int pos = numbers.below(8); pos < 32; pos += 1 + numbers.below(4)) {
                    x.setCoef(pos, numbers.between(-32767, 32767) >> shift);
                }
                trip("run " + run + " frame " + frame, x);
            }
        }
    }
}
