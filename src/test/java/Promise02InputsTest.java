/** Promise 2: input coefficients are clamped, kept, and refused outside 0..31. */
public final class Promise02InputsTest {
    private static final Check CHECK = new Check();
    private static final int[] OUTSIDE = {
        Integer.MIN_VALUE, -1000000, -32, -1, 32, 33, 64, 65536, Integer.MAX_VALUE
    };

    private Promise02InputsTest() {}

    public static void main(String[] args) {
        setsEveryPosition();
        clampsValues();
        refusesOutside();
        changesNothingElse();
        outlastsFrames();
        CHECK.finish();
    }

    private static void setsEveryPosition() {
        PvqBandCodec x = new PvqBandCodec(2, 3, 4, 5);
        for (int pos = 0; pos < 32; pos++) {
            CHECK.due("setCoef(" + pos + ")", x.setCoef(pos, 1000 * pos - 15000), true);
        }
        for (int pos = 0; pos < 32; pos++) {
            CHECK.due("coefAt(" + pos + ")", x.coefAt(pos), 1000 * pos - 15000);
        }
    }

    private static void clampsValues() {
        int[] given = {
            Integer.MIN_VALUE, -65536, -32769, -32768, -32767, -32766, -1, 0, 1, 32766, 32767, 32768, 65536,
            Integer.MAX_VALUE
        };
        int[] kept = {
            -32767, -32767, -32767, -32767, -32767, -32766, -1, 0, 1, 32766, 32767, 32767, 32767, 32767
        };
        PvqBandCodec x = new PvqBandCodec(2, 3, 4, 5);
        for (int i = 0; i < given.length; i++) {
            CHECK.due("setCoef(9, " + given[i] + ")", x.setCoef(9, given[i]), true);
            CHECK.due("coefAt(9) after " + given[i], x.coefAt(9), kept[i]);
        }
    }

    private static void refusesOutside() {
        PvqBandCodec x = State.busy();
        String before = State.whole(x);
        for (int pos : OUTSIDE) {
            CHECK.due("setCoef(" + pos + ", 5)", x.setCoef(pos, 5), false);
            CHECK.due("coefAt(" + pos + ")", x.coefAt(pos), -1000000);
            CHECK.due("state after setCoef(" + pos + ", 5)", State.whole(x), before);
        }
    }

    private static void changesNothingElse() {
        PvqBandCodec x = State.busy();
        String encoder = State.encoder(x);
        String decoder = State.decoder(x);
        String packet = State.packet(x);
        String scratch = State.scratch(x);
        for (int pos = 0; pos < 32; pos++) {
            x.setCoef(pos, 77 * pos);
        }
        CHECK.due("encoder", State.encoder(x), encoder);
        CHECK.due("decoder", State.decoder(x), decoder);
        CHECK.due("packet", State.packet(x), packet);
        CHECK.due("scratch", State.scratch(x), scratch);
    }

    private static void outlastsFrames() {
        PvqBandCodec x = State.busy();
        String before = State.inputs(x);
        x.encodeFrame();
        CHECK.due("inputs after encodeFrame", State.inputs(x), before);
        x.decodeFrame();
        x.encodeFrame();
        CHECK.due("inputs after three frames", State.inputs(x), before);
    }
}
