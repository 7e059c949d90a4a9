/** Promise 4: the packet's length and bytes, and NONE outside of them. */
public final class Promise04PacketReadTest {
    private static final Check CHECK = new Check();

    private Promise04PacketReadTest() {}

    public static void main(String[] args) {
        PvqBandCodec x = new PvqBandCodec(1, 1, 1, 1);
        dueOutside(x, 0);
        for (int length = 1; length <= 64; length++) {
            x.putByte(length - 1, 3 * length);
            CHECK.due("packetLength()", x.packetLength(), length);
            dueOutside(x, length);
            for (int i = 0; i < length; i++) {
                CHECK.due("packetByte(" + i + ") of " + length, x.packetByte(i), 3 * (i + 1));
            }
        }
        staysBytes();
        changesNothing();
        CHECK.finish();
    }

    private static void dueOutside(PvqBandCodec x, int length) {
        CHECK.due("packetLength()", x.packetLength(), length);
        int[] outside = {
            Integer.MIN_VALUE, -1000000, -64, -1, length, length + 1, 64, 65, 1000, Integer.MAX_VALUE
        };
        for (int i : outside) {
            CHECK.due("packetByte(" + i + ") of " + length, x.packetByte(i), -1000000);
        }
    }

    private static void staysBytes() {
        PvqBandCodec x = new PvqBandCodec(16, 15, 13, 11);
        Numbers numbers = new Numbers(4);
        for (int frame = 0; frame < 2000; frame++) {
            x.setCoef(numbers.below(32), numbers.between(-32767, 32767));
            int length = x.encodeFrame();
            CHECK.due("packetLength() after encodeFrame", x.packetLength(), length);
            CHECK.due("packetLength() at most 64", length <= 64, true);
            for (int i = 0; i < length; i++) {
                int value = x.packetByte(i);
                CHECK.due("packetByte(" + i + ") in 0..255", value >= 0 && value <= 255, true);
            }
        }
    }

    private static void changesNothing() {
        PvqBandCodec x = State.busy();
        String before = State.whole(x);
        for (int i = -2; i < 70; i++) {
            x.packetByte(i);
            x.packetLength();
        }
        CHECK.due("state after reading", State.whole(x), before);
    }
}
