import java.util.function.Consumer;

/** The boundary sentences of Promise 1: construction and the fresh state. */
public final class Promise01BoundaryTest {
    private static final Check CHECK = new Check();
    private static final int MIN = Integer.MIN_VALUE;
    private static final int MAX = Integer.MAX_VALUE;

    private Promise01BoundaryTest() {}

    public static void main(String[] args) {
        clampsEachCountAtBothEnds();
        acceptsAnyInt();
        noCallChangesTheCounts();
        startsWithoutInputs();
        startsWithAFreshEncoder();
        startsWithAFreshDecoder();
        startsWithAnEmptyPacket();
        startsWithAnEmptyScratch();
        CHECK.finish();
    }

    /** A silent band has all its pulses on its first position; an empty packet has them on the last. */
    private static void dueCounts(String when, PvqBandCodec x, int... counts) {
        for (int pos = 0; pos < 32; pos++) {
            x.setCoef(pos, 0);
        }
        x.encodeFrame();
        x.decodeFrame();
        for (int b = 0; b < 4; b++) {
            for (int side = 0; side < 2; side++) {
                CHECK.due(when + ": pulse(" + side + ", " + 8 * b + ")", x.pulse(side, 8 * b), counts[b]);
            }
        }
    }

    private static void clampsEachCountAtBothEnds() {
        CHECK.sentence("sets the pulse counts K0..K3 of bands 0..3 to k0..k3, each clamped into [1,16].");
        int[] given = {-1, 0, 1, 2, 15, 16, 17, 18};
        int[] kept = {1, 1, 1, 2, 15, 16, 16, 16};
        for (int i = 0; i < given.length; i++) {
            for (int band = 0; band < 4; band++) {
                int[] k = {5, 6, 7, 8};
                int[] due = {5, 6, 7, 8};
                k[band] = given[i];
                due[band] = kept[i];
                dueCounts("k" + band + " = " + given[i], Frames.codec(k), due);
            }
        }
    }

    private static void acceptsAnyInt() {
        CHECK.sentence("Any int is accepted, including negative values and values far above 16.");
        dueCounts("least", new PvqBandCodec(MIN, MIN, MIN, MIN), 1, 1, 1, 1);
        dueCounts("greatest", new PvqBandCodec(MAX, MAX, MAX, MAX), 16, 16, 16, 16);
        dueCounts("mixed", new PvqBandCodec(MIN, MAX, -16, 65552), 1, 16, 1, 16);
        dueCounts("about bytes", new PvqBandCodec(256, 257, -256, -255), 16, 16, 1, 1);
        dueCounts("about halves", new PvqBandCodec(65536, 65537, -65536, -65535), 16, 16, 1, 1);
    }

    private static void noCallChangesTheCounts() {
        CHECK.sentence("The pulse counts are fixed for the life of the object; no later call changes them.");
        dueKept("setCoef", x -> x.setCoef(0, 16));
        dueKept("a refused setCoef", x -> x.setCoef(32, 16));
        dueKept("encodeFrame", PvqBandCodec::encodeFrame);
        dueKept("putByte", x -> x.putByte(0, 16));
        dueKept("a refused putByte", x -> x.putByte(64, 16));
        dueKept("decodeFrame", PvqBandCodec::decodeFrame);
        dueKept("decodeFrame of a full packet", x -> {
            for (int i = 0; i < 64; i++) {
                x.putByte(i, 255);
            }
            x.decodeFrame();
        });
        dueKept("setVec", x -> x.setVec(0, 16));
        dueKept("a refused setVec", x -> x.setVec(8, 16));
        dueKept("vecUnindex", x -> x.vecUnindex(8, 16, 15158271));
        dueKept("a refused vecUnindex", x -> x.vecUnindex(9, 16, 0));
        dueKept("reads", State::whole);
        dueKept("pyramidSize", x -> x.pyramidSize(8, 16));
        dueKept("another object", x -> new PvqBandCodec(1, 1, 1, 1).encodeFrame());
    }

    private static void dueKept(String when, Consumer<PvqBandCodec> call) {
        PvqBandCodec x = new PvqBandCodec(2, 5, 11, 15);
        call.accept(x);
        dueCounts("after " + when, x, 2, 5, 11, 15);
        call.accept(x);
        dueCounts("after " + when + " twice", x, 2, 5, 11, 15);
    }

    private static PvqBandCodec fresh() {
        // Another object's state must not show in a fresh one.
        State.busy();
        return new PvqBandCodec(3, 7, 12, 16);
    }

    private static void startsWithoutInputs() {
        CHECK.sentence("The object starts in the fresh state: all 32 input coefficients 0");
        PvqBandCodec x = fresh();
        for (int pos = 0; pos < 32; pos++) {
            CHECK.due("coefAt(" + pos + ")", x.coefAt(pos), 0);
        }
    }

    private static void startsWithAFreshEncoder() {
        CHECK.sentence("the encoder q of every band 0 and all 32 encoder pulses 0");
        dueFreshSide(0);
    }

    private static void startsWithAFreshDecoder() {
        CHECK.sentence("the decoder q of every band 0, all 32 decoder pulses 0 and all 32 decoded coefficients 0");
        dueFreshSide(1);
        PvqBandCodec x = fresh();
        for (int pos = 0; pos < 32; pos++) {
            CHECK.due("decodedCoef(" + pos + ")", x.decodedCoef(pos), 0);
        }
    }

    private static void dueFreshSide(int side) {
        PvqBandCodec x = fresh();
        for (int b = 0; b < 4; b++) {
            CHECK.due("energyQ(" + side + ", " + b + ")", x.energyQ(side, b), 0);
        }
        for (int pos = 0; pos < 32; pos++) {
            CHECK.due("pulse(" + side + ", " + pos + ")", x.pulse(side, pos), 0);
        }
    }

    /** The cells themselves can't be seen while the length is 0; a decoder reads 0 either way. */
    private static void startsWithAnEmptyPacket() {
        CHECK.sentence("packet length 0 with all 64 cells 0");
        PvqBandCodec x = fresh();
        CHECK.due("packetLength()", x.packetLength(), 0);
        for (int i = 0; i < 64; i++) {
            CHECK.due("packetByte(" + i + ")", x.packetByte(i), -1000000);
        }
        x.decodeFrame();
        PvqBandCodec zeros = fresh();
        for (int i = 0; i < 64; i++) {
            zeros.putByte(i, 0);
        }
        zeros.decodeFrame();
        CHECK.due("decoded", State.decoder(x), State.decoder(zeros));
    }

    private static void startsWithAnEmptyScratch() {
        CHECK.sentence("all 8 scratch vector cells 0");
        PvqBandCodec x = fresh();
        for (int i = 0; i < 8; i++) {
            CHECK.due("vecAt(" + i + ")", x.vecAt(i), 0);
        }
    }
}
