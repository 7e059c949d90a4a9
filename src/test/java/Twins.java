import java.util.function.Supplier;

/**
 * Two objects with the same past. A call that should change nothing is made on one of them: what it
 * left behind, even where no answer shows it yet, parts their futures.
 */
final class Twins {
    final PvqBandCodec touched;
    private final PvqBandCodec plain;

    Twins(Supplier<PvqBandCodec> maker) {
        touched = maker.get();
        plain = maker.get();
    }

    void dueSame(Check check, String when) {
        compare(check, "after " + when);
        touched.decodeFrame();
        plain.decodeFrame();
        compare(check, "decodeFrame after " + when);
        touched.putByte(plain.packetLength(), 77);
        plain.putByte(plain.packetLength(), 77);
        touched.decodeFrame();
        plain.decodeFrame();
        compare(check, "one byte more after " + when);
        touched.encodeFrame();
        plain.encodeFrame();
        compare(check, "encodeFrame after " + when);
        touched.decodeFrame();
        plain.decodeFrame();
        compare(check, "encodeFrame and decodeFrame after " + when);
    }

    private void compare(Check check, String when) {
        check.due(when, State.whole(touched), State.whole(plain));
    }
}
