/** Promise 9: scratch cells are clamped, kept, and refused outside 0..7. */
public final class Promise09ScratchTest {
    private static final Check CHECK = new Check();

    private Promise09ScratchTest() {}

    public static void main(String[] args) {
        setsEveryCell();
        clampsValues();
        refusesOutside();
        changesNothingElse();
        CHECK.finish();
    }

    private static void setsEveryCell() {
        PvqBandCodec x = new PvqBandCodec(1, 2, 3, 4);
        for (int i = 0; i < 8; i++) {
            CHECK.due("setVec(" + i + ")", x.setVec(i, 4 * i - 13), true);
        }
        for (int i = 0; i < 8; i++) {
            CHECK.due("vecAt(" + i + ")", x.vecAt(i), 4 * i - 13);
        }
    }

    private static void clampsValues() {
        int[] given = {
            Integer.MIN_VALUE, -1000000, -18, -17, -16, -15, -1, 0, 1, 15, 16, 17, 18, 65536, Integer.MAX_VALUE
        };
        int[] kept = {-16, -16, -16, -16, -16, -15, -1, 0, 1, 15, 16, 16, 16, 16, 16};
        PvqBandCodec x = new PvqBandCodec(1, 2, 3, 4);
        for (int i = 0; i < given.length; i++) {
            CHECK.due("setVec(3, " + given[i] + ")", x.setVec(3, given[i]), true);
            CHECK.due("vecAt(3) after " + given[i], x.vecAt(3), kept[i]);
        }
    }

    private static void refusesOutside() {
        PvqBandCodec x = State.busy();
        String before = State.whole(x);
        int[] outside = {Integer.MIN_VALUE, -1000000, -8, -1, 8, 9, 16, 31, Integer.MAX_VALUE};
        for (int i : outside) {
            CHECK.due("setVec(" + i + ", 5)", x.setVec(i, 5), false);
            CHECK.due("vecAt(" + i + ")", x.vecAt(i), -1000000);
            CHECK.due("state after setVec(" + i + ", 5)", State.whole(x), before);
        }
    }

    private static void changesNothingElse() {
        PvqBandCodec x = State.busy();
        String inputs = State.inputs(x);
        String encoder = State.encoder(x);
        String decoder = State.decoder(x);
        String packet = State.packet(x);
        for (int i = 0; i < 8; i++) {
            x.setVec(i, 16 - i);
        }
        CHECK.due("inputs", State.inputs(x), inputs);
        CHECK.due("encoder", State.encoder(x), encoder);
        CHECK.due("decoder", State.decoder(x), decoder);
        CHECK.due("packet", State.packet(x), packet);
    }
}
