/** The boundary sentences of Promise 2: input coefficients. */
public final class Promise02BoundaryTest {
    private static final Check CHECK = new Check();
    private static final int MIN = Integer.MIN_VALUE;
    private static final int MAX = Integer.MAX_VALUE;
    private static final int[] OUTSIDE = {MIN, MIN + 1, -1000000, -33, -32, -2, -1, 32, 33, 63, 64, 1 << 16, MAX};

    private Promise02BoundaryTest() {}

    public static void main(String[] args) {
        refusesOutside();
        examinesThePositionWhateverTheValue();
        takesTheFirstAndTheLast();
        clampsAtBothEnds();
        changesNothingElse();
        encodingDoesNotAlterInputs();
        answersNoneOutside();
        readingChangesNothing();
        CHECK.finish();
    }

    private static void refusesOutside() {
        CHECK.sentence("refused (false, nothing changes) if pos is outside 0..31.");
        for (int pos : OUTSIDE) {
            Twins busy = new Twins(State::busy);
            CHECK.due("setCoef(" + pos + ", 123)", busy.touched.setCoef(pos, 123), false);
            busy.dueSame(CHECK, "setCoef(" + pos + ", 123)");
        }
    }

    private static void examinesThePositionWhateverTheValue() {
        CHECK.sentence("refused (false, nothing changes) if pos is outside 0..31.");
        for (int value : new int[] {MIN, -32768, -1, 0, 1, 32768, MAX}) {
            for (int pos : new int[] {-1, 32}) {
                Twins busy = new Twins(State::busy);
                CHECK.due("setCoef(" + pos + ", " + value + ")", busy.touched.setCoef(pos, value), false);
                busy.dueSame(CHECK, "setCoef(" + pos + ", " + value + ")");
            }
        }
    }

    private static void takesTheFirstAndTheLast() {
        CHECK.sentence("Otherwise input coefficient pos becomes value clamped into [-32767,32767] and the answer is"
                + " true.");
        PvqBandCodec x = new PvqBandCodec(4, 4, 4, 4);
        CHECK.due("setCoef(0, 11)", x.setCoef(0, 11), true);
        CHECK.due("setCoef(31, -12)", x.setCoef(31, -12), true);
        CHECK.due("coefAt(0)", x.coefAt(0), 11);
        CHECK.due("coefAt(31)", x.coefAt(31), -12);
        CHECK.due("setCoef(0, 0)", x.setCoef(0, 0), true);
        CHECK.due("coefAt(0)", x.coefAt(0), 0);
    }

    private static void clampsAtBothEnds() {
        CHECK.sentence("Otherwise input coefficient pos becomes value clamped into [-32767,32767] and the answer is"
                + " true.");
        int[] given = {MIN, -65536, -32769, -32768, -32767, -32766, 32766, 32767, 32768, 32769, 65536, MAX};
        int[] kept = {-32767, -32767, -32767, -32767, -32767, -32766, 32766, 32767, 32767, 32767, 32767, 32767};
        PvqBandCodec x = new PvqBandCodec(4, 4, 4, 4);
        for (int pos = 0; pos < 32; pos++) {
            for (int i = 0; i < given.length; i++) {
                CHECK.due("setCoef(" + pos + ", " + given[i] + ")", x.setCoef(pos, given[i]), true);
                CHECK.due("coefAt(" + pos + ") after " + given[i], x.coefAt(pos), kept[i]);
            }
        }
    }

    private static void changesNothingElse() {
        CHECK.sentence("Nothing else changes.");
        for (int pos = 0; pos < 32; pos++) {
            PvqBandCodec x = State.busy();
            String before = State.whole(x).replace(State.inputs(x), "");
            int[] inputs = new int[32];
            for (int at = 0; at < 32; at++) {
                inputs[at] = x.coefAt(at);
            }
            x.setCoef(pos, -4321);
            for (int at = 0; at < 32; at++) {
                CHECK.due("coefAt(" + at + ") after setCoef(" + pos + ", -4321)", x.coefAt(at),
                        at == pos ? -4321 : inputs[at]);
            }
            CHECK.due("the rest after setCoef(" + pos + ", -4321)",
                    State.whole(x).replace(State.inputs(x), ""), before);
        }
    }

    private static void encodingDoesNotAlterInputs() {
        CHECK.sentence("Inputs persist across frames: encoding does not alter them.");
        PvqBandCodec x = new PvqBandCodec(16, 1, 16, 1);
        for (int pos = 0; pos < 32; pos++) {
            x.setCoef(pos, pos % 2 == 0 ? -32767 : pos == 31 ? 32767 : pos - 15);
        }
        String before = State.inputs(x);
        for (int frame = 0; frame < 5; frame++) {
            x.encodeFrame();
            CHECK.due("inputs after encodeFrame", State.inputs(x), before);
            x.decodeFrame();
            CHECK.due("inputs after decodeFrame", State.inputs(x), before);
        }
    }

    private static void answersNoneOutside() {
        CHECK.sentence("answers the input coefficient at pos for pos in 0..31, and NONE for any other pos.");
        PvqBandCodec x = State.busy();
        for (int pos : OUTSIDE) {
            CHECK.due("coefAt(" + pos + ")", x.coefAt(pos), -1000000);
        }
        CHECK.due("coefAt(0)", x.coefAt(0), -500);
        CHECK.due("coefAt(31)", x.coefAt(31), 2000);
    }

    private static void readingChangesNothing() {
        CHECK.sentence("Changes nothing.");
        Twins busy = new Twins(State::busy);
        for (int pos = 0; pos < 32; pos++) {
            busy.touched.coefAt(pos);
        }
        for (int pos : OUTSIDE) {
            busy.touched.coefAt(pos);
        }
        busy.dueSame(CHECK, "coefAt");
    }
}
