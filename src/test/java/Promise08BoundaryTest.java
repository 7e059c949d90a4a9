/** The boundary sentences of Promise 8: the decoded spectrum. */
public final class Promise08BoundaryTest {
    private static final Check CHECK = new Check();
    private static final int[] OUTSIDE = {
        Integer.MIN_VALUE, -1000000, -33, -32, -1, 32, 33, 63, 64, 1 << 27, Integer.MAX_VALUE
    };

    private Promise08BoundaryTest() {}

    public static void main(String[] args) {
        isZeroBeforeTheFirst();
        answersTheFirstAndTheLast();
        answersNoneOutside();
        changesNothing();
        CHECK.finish();
    }

    private static void isZeroBeforeTheFirst() {
        CHECK.sentence("answers the decoded coefficient at pos for pos in 0..31 (0 before the first decodeFrame)");
        PvqBandCodec x = new PvqBandCodec(16, 16, 16, 16);
        dueZeros("fresh", x);
        for (int pos = 0; pos < 32; pos++) {
            x.setCoef(pos, 32767);
        }
        dueZeros("with inputs", x);
        x.encodeFrame();
        dueZeros("encoded", x);
        x.putByte(0, 255);
        dueZeros("edited", x);
    }

    private static void dueZeros(String when, PvqBandCodec x) {
        for (int pos = 0; pos < 32; pos++) {
            CHECK.due(when + ": decodedCoef(" + pos + ")", x.decodedCoef(pos), 0);
        }
    }

    private static PvqBandCodec loud() {
        int[] k = {16, 16, 16, 16};
        PvqBandCodec x = Frames.holding(k, SpelledEncoder.packet(k, new int[] {66, 2, 2, 66}, new int[] {
            15158271, 0, 15158270, 0}));
        x.decodeFrame();
        return x;
    }

    private static void answersTheFirstAndTheLast() {
        CHECK.sentence("answers the decoded coefficient at pos for pos in 0..31");
        PvqBandCodec x = loud();
        for (int pos = 0; pos < 32; pos++) {
            int due = pos == 0 ? -65536 : pos == 31 ? 65536 : pos == 15 || pos == 16 ? 1 : 0;
            CHECK.due("decodedCoef(" + pos + ")", x.decodedCoef(pos), due);
        }
    }

    private static void answersNoneOutside() {
        CHECK.sentence("and NONE for any other pos.");
        PvqBandCodec fresh = new PvqBandCodec(1, 1, 1, 1);
        PvqBandCodec x = loud();
        for (int pos : OUTSIDE) {
            CHECK.due("fresh: decodedCoef(" + pos + ")", fresh.decodedCoef(pos), -1000000);
            CHECK.due("loud: decodedCoef(" + pos + ")", x.decodedCoef(pos), -1000000);
        }
    }

    private static void changesNothing() {
        CHECK.sentence("Changes nothing.");
        Twins twins = new Twins(State::busy);
        for (int pos = -40; pos <= 70; pos++) {
            twins.touched.decodedCoef(pos);
        }
        twins.dueSame(CHECK, "decodedCoef");
    }
}
