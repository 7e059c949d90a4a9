/** The boundary sentences of Promise 5: editing the packet. */
public final class Promise05BoundaryTest {
    private static final Check CHECK = new Check();
    private static final int MIN = Integer.MIN_VALUE;
    private static final int MAX = Integer.MAX_VALUE;

    private Promise05BoundaryTest() {}

    public static void main(String[] args) {
        refusesBelowZero();
        refusesPastTheCap();
        refusesPastTheLength();
        takesTheLowByte();
        growsAtTheLengthAlone();
        replacesBelowTheLength();
        changesNoOtherByte();
        changesNoSide();
        CHECK.finish();
    }

    private static PvqBandCodec ofLength(int length) {
        PvqBandCodec x = new PvqBandCodec(3, 7, 12, 16);
        for (int i = 0; i < length; i++) {
            x.putByte(i, 37 * i + 5);
        }
        return x;
    }

    private static void dueRefused(int length, int i, int value) {
        Twins twins = new Twins(() -> ofLength(length));
        String call = "putByte(" + i + ", " + value + ") of " + length;
        CHECK.due(call, twins.touched.putByte(i, value), false);
        twins.dueSame(CHECK, call);
    }

    /** Which of the three reasons comes first can't be seen: each answers false and changes nothing. */
    private static void refusesBelowZero() {
        CHECK.sentence("putByte(i, value) examines, in order: i < 0");
        for (int length : new int[] {0, 1, 63, 64}) {
            for (int i : new int[] {MIN, MIN + 1, -256, -64, -1}) {
                dueRefused(length, i, 9);
                dueRefused(length, i, -1);
            }
        }
    }

    /** At a full packet i = 64 is not past the length, so the cap alone refuses it. */
    private static void refusesPastTheCap() {
        CHECK.sentence("putByte(i, value) examines, in order: ... i >= 64");
        for (int i : new int[] {64, 65, 128, 256, MAX - 1, MAX}) {
            dueRefused(64, i, 9);
            dueRefused(63, i, 9);
            dueRefused(0, i, 9);
        }
    }

    private static void refusesPastTheLength() {
        CHECK.sentence("putByte(i, value) examines, in order: ... i > packet length; in each of these cases it is"
                + " refused (false, nothing changes).");
        for (int length = 0; length < 63; length++) {
            dueRefused(length, length + 1, 0);
            dueRefused(length, 63, 9);
        }
    }

    private static void takesTheLowByte() {
        CHECK.sentence("Otherwise cell i becomes value mod 256 taken in 0..255 (that is, value & 255, so negative values"
                + " are accepted)");
        int[] given = {MIN, MIN + 1, -65536, -257, -256, -255, -129, -128, -1, 0, 1, 127, 128, 254, 255, 256, 257, 511,
            512, 65535, MAX - 1, MAX};
        int[] kept = {0, 1, 0, 255, 0, 1, 127, 128, 255, 0, 1, 127, 128, 254, 255, 0, 1, 255, 0, 255, 254, 255};
        for (int v = 0; v < given.length; v++) {
            PvqBandCodec x = new PvqBandCodec(1, 1, 1, 1);
            for (int i = 0; i < 64; i++) {
                CHECK.due("putByte(" + i + ", " + given[v] + ")", x.putByte(i, given[v]), true);
                CHECK.due("packetByte(" + i + ") after " + given[v], x.packetByte(i), kept[v]);
            }
            for (int i = 0; i < 64; i++) {
                x.putByte(i, 99);
                CHECK.due("putByte(" + i + ", " + given[v] + ") again", x.putByte(i, given[v]), true);
                CHECK.due("packetByte(" + i + ") after 99 and " + given[v], x.packetByte(i), kept[v]);
            }
        }
    }

    private static void growsAtTheLengthAlone() {
        CHECK.sentence("if i equals the packet length, the length grows by 1. The answer is true. Writing at i = length"
                + " extends the packet by one byte");
        PvqBandCodec x = new PvqBandCodec(1, 1, 1, 1);
        for (int length = 0; length < 64; length++) {
            CHECK.due("putByte(" + length + ") at the length", x.putByte(length, 7), true);
            CHECK.due("packetLength()", x.packetLength(), length + 1);
        }
        CHECK.due("putByte(64) at the full length", x.putByte(64, 7), false);
        CHECK.due("packetLength()", x.packetLength(), 64);
        // After encodeFrame the length is the new packet's.
        int length = x.encodeFrame();
        CHECK.due("putByte past the new length", x.putByte(length + 1, 7), false);
        CHECK.due("putByte at the new length", x.putByte(length, 7), true);
        CHECK.due("packetLength()", x.packetLength(), length + 1);
    }

    private static void replacesBelowTheLength() {
        CHECK.sentence("writing at i < length replaces a byte without changing the length.");
        for (int length = 1; length <= 64; length++) {
            PvqBandCodec x = ofLength(length);
            for (int i = 0; i < length; i++) {
                CHECK.due("putByte(" + i + ") of " + length, x.putByte(i, 255 - i), true);
                CHECK.due("packetLength()", x.packetLength(), length);
                CHECK.due("packetByte(" + i + ")", x.packetByte(i), 255 - i);
            }
        }
    }

    private static void changesNoOtherByte() {
        CHECK.sentence("Nothing else changes");
        for (int length : new int[] {1, 2, 63, 64}) {
            for (int i = 0; i < length; i++) {
                PvqBandCodec x = ofLength(length);
                x.putByte(i, 1);
                for (int at = 0; at < length; at++) {
                    CHECK.due("packetByte(" + at + ") after putByte(" + i + ", 1)", x.packetByte(at),
                            at == i ? 1 : (37 * at + 5) & 255);
                }
            }
        }
    }

    private static void changesNoSide() {
        CHECK.sentence("in particular no encoder or decoder state changes.");
        PvqBandCodec edited = State.busy();
        PvqBandCodec plain = State.busy();
        for (int i = 0; i < 64; i++) {
            edited.putByte(i, 201 + i);
            CHECK.due("inputs", State.inputs(edited), State.inputs(plain));
            CHECK.due("encoder", State.encoder(edited), State.encoder(plain));
            CHECK.due("decoder", State.decoder(edited), State.decoder(plain));
            CHECK.due("scratch", State.scratch(edited), State.scratch(plain));
        }
        edited.encodeFrame();
        plain.encodeFrame();
        CHECK.due("the next frame", State.whole(edited), State.whole(plain));
        edited.decodeFrame();
        plain.decodeFrame();
        CHECK.due("the next frame decoded", State.whole(edited), State.whole(plain));
    }
}
