/** Promise 5: bytes are replaced or added at the end, and refused elsewhere. */
public final class Promise05PacketEditTest {
    private static final Check CHECK = new Check();

    private Promise05PacketEditTest() {}

    public static void main(String[] args) {
        fillsToTheCap();
        takesValuesModulo();
        refusesAndChangesNothing();
        replacesWithoutGrowing();
        CHECK.finish();
    }

    private static void fillsToTheCap() {
        PvqBandCodec x = new PvqBandCodec(4, 4, 4, 4);
        for (int i = 0; i < 64; i++) {
            CHECK.due("putByte(" + (i + 1) + ") past the end of " + i, x.putByte(i + 1, 9), false);
            CHECK.due("packetLength()", x.packetLength(), i);
            CHECK.due("putByte(" + i + ") at the end", x.putByte(i, 100 + i), true);
            CHECK.due("packetLength()", x.packetLength(), i + 1);
        }
        String full = State.packet(x);
        CHECK.due("putByte(64)", x.putByte(64, 9), false);
        CHECK.due("putByte(65)", x.putByte(65, 9), false);
        CHECK.due("the full packet", State.packet(x), full);
        CHECK.due("putByte(63)", x.putByte(63, 9), true);
        CHECK.due("packetByte(63)", x.packetByte(63), 9);
        CHECK.due("packetLength()", x.packetLength(), 64);
    }

    private static void takesValuesModulo() {
        int[] given = {
            0, 1, 127, 128, 255, 256, 257, 511, 65535, -1, -128, -255, -256, -257, Integer.MIN_VALUE, Integer.MAX_VALUE
        };
        int[] kept = {0, 1, 127, 128, 255, 0, 1, 255, 255, 255, 128, 1, 0, 255, 0, 255};
        PvqBandCodec x = new PvqBandCodec(4, 4, 4, 4);
        x.putByte(0, 77);
        for (int i = 0; i < given.length; i++) {
            CHECK.due("putByte(0, " + given[i] + ")", x.putByte(0, given[i]), true);
            CHECK.due("packetByte(0) after " + given[i], x.packetByte(0), kept[i]);
            CHECK.due("putByte(end, " + given[i] + ")", x.putByte(i + 1, given[i]), true);
            CHECK.due("packetByte(end) after " + given[i], x.packetByte(i + 1), kept[i]);
        }
    }

    private static void refusesAndChangesNothing() {
        PvqBandCodec x = State.busy();
        String before = State.whole(x);
        int length = x.packetLength();
        int[] outside = {
            Integer.MIN_VALUE, -1000000, -64, -1, length + 1, 63, 64, 65, 1000, Integer.MAX_VALUE
        };
        for (int i : outside) {
            CHECK.due("putByte(" + i + ", 5)", x.putByte(i, 5), false);
            CHECK.due("state after putByte(" + i + ", 5)", State.whole(x), before);
        }
    }

    private static void replacesWithoutGrowing() {
        PvqBandCodec x = State.busy();
        int length = x.packetLength();
        String inputs = State.inputs(x);
        String encoder = State.encoder(x);
        String decoder = State.decoder(x);
        String scratch = State.scratch(x);
        for (int i = 0; i < length; i++) {
            int next = x.packetByte(i + 1);
            CHECK.due("putByte(" + i + ")", x.putByte(i, 201 + i), true);
            CHECK.due("packetLength()", x.packetLength(), length);
            CHECK.due("packetByte(" + i + ")", x.packetByte(i), 201 + i);
            CHECK.due("the byte after " + i, x.packetByte(i + 1), next);
        }
        CHECK.due("putByte at the end", x.putByte(length, 1), true);
        CHECK.due("packetLength()", x.packetLength(), length + 1);
        CHECK.due("inputs", State.inputs(x), inputs);
        CHECK.due("encoder", State.encoder(x), encoder);
        CHECK.due("decoder", State.decoder(x), decoder);
        CHECK.due("scratch", State.scratch(x), scratch);
    }
}
