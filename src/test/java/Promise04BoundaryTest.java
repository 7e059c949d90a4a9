/** The boundary sentences of Promise 4: reading the packet. */
public final class Promise04BoundaryTest {
    private static final Check CHECK = new Check();
    private static final int MIN = Integer.MIN_VALUE;
    private static final int MAX = Integer.MAX_VALUE;

    private Promise04BoundaryTest() {}

    public static void main(String[] args) {
        lengthIsZeroToFull();
        lengthChangesNothing();
        bytesAreZeroTo255();
        noneBelowZero();
        noneAtOrBeyondTheLength();
        readingChangesNothing();
        CHECK.finish();
    }

    private static void lengthIsZeroToFull() {
        CHECK.sentence("packetLength() answers the number of bytes in the packet, 0..64.");
        PvqBandCodec x = new PvqBandCodec(1, 1, 1, 1);
        CHECK.due("packetLength() of an empty packet", x.packetLength(), 0);
        x.decodeFrame();
        CHECK.due("packetLength() after decodeFrame", x.packetLength(), 0);
        for (int i = 0; i < 64; i++) {
            x.putByte(i, i);
            CHECK.due("packetLength()", x.packetLength(), i + 1);
        }
        x.putByte(64, 1);
        CHECK.due("packetLength() of a full packet", x.packetLength(), 64);
        x.encodeFrame();
        CHECK.due("packetLength() after encodeFrame", x.packetLength(), 8);
    }

    private static void lengthChangesNothing() {
        CHECK.sentence("packetLength() ... Changes nothing.");
        Twins busy = new Twins(State::busy);
        for (int i = 0; i < 100; i++) {
            busy.touched.packetLength();
        }
        busy.dueSame(CHECK, "packetLength()");
    }

    private static void bytesAreZeroTo255() {
        CHECK.sentence("packetByte(i) answers packet byte i, a value in 0..255, for 0 <= i < packet length");
        PvqBandCodec x = new PvqBandCodec(1, 1, 1, 1);
        for (int i = 0; i < 64; i++) {
            x.putByte(i, 255 - i % 2 * 255);
        }
        for (int i = 0; i < 64; i++) {
            CHECK.due("packetByte(" + i + ")", x.packetByte(i), i % 2 == 0 ? 255 : 0);
        }
        for (int value = -128; value <= 255; value++) {
            x.putByte(0, value);
            x.putByte(63, value);
            CHECK.due("packetByte(0) of " + value, x.packetByte(0), value < 0 ? 256 + value : value);
            CHECK.due("packetByte(63) of " + value, x.packetByte(63), value < 0 ? 256 + value : value);
        }
    }

    private static void noneBelowZero() {
        CHECK.sentence("for any other i (negative, at or beyond the length) it answers NONE.");
        for (int length = 0; length <= 64; length++) {
            PvqBandCodec x = ofLength(length);
            for (int i : new int[] {MIN, -1000000, -65, -64, -length - 1, -1}) {
                CHECK.due("packetByte(" + i + ") of " + length, x.packetByte(i), -1000000);
            }
        }
    }

    private static void noneAtOrBeyondTheLength() {
        CHECK.sentence("for any other i (negative, at or beyond the length) it answers NONE.");
        for (int length = 0; length <= 64; length++) {
            PvqBandCodec x = ofLength(length);
            if (length > 0) {
                CHECK.due("the last of " + length, x.packetByte(length - 1), 200);
            }
            for (int i = length; i <= 70; i++) {
                CHECK.due("packetByte(" + i + ") of " + length, x.packetByte(i), -1000000);
            }
            CHECK.due("packetByte(" + MAX + ")", x.packetByte(MAX), -1000000);
            // Bytes of an earlier, longer packet are gone.
            x.encodeFrame();
            for (int i = 8; i <= 64; i++) {
                CHECK.due("packetByte(" + i + ") after encodeFrame", x.packetByte(i), -1000000);
            }
        }
    }

    private static PvqBandCodec ofLength(int length) {
        PvqBandCodec x = new PvqBandCodec(1, 1, 1, 1);
        for (int i = 0; i < length; i++) {
            x.putByte(i, 200);
        }
        return x;
    }

    private static void readingChangesNothing() {
        CHECK.sentence("packetByte(i) ... Changes nothing.");
        Twins busy = new Twins(State::busy);
        for (int i = -70; i <= 70; i++) {
            busy.touched.packetByte(i);
        }
        busy.dueSame(CHECK, "packetByte");
    }
}
