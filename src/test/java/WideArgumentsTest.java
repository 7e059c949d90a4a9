import java.util.Set;
import java.util.TreeSet;

/**
 * Every argument of every call, at ints from one end to the other: each answer and what stands
 * afterwards compared with the model's, on a new object and on one with a past.
 */
public final class WideArgumentsTest {
    private static final Check CHECK = new Check();
    private static final int[] COUNTS = {3, 7, 12, 16};

    private final String name;
    private final PvqBandCodec x = Frames.codec(COUNTS);
    private final Model model = new Model(COUNTS);

    private WideArgumentsTest(String name) {
        this.name = name;
    }

    public static void main(String[] args) {
        Set<Integer> wide = wideInts();
        WideArgumentsTest fresh = new WideArgumentsTest("new");
        WideArgumentsTest used = new WideArgumentsTest("used");
        used.use();
        for (int w : wide) {
            counts(w);
            fresh.everyCall(w);
            used.everyCall(w);
        }
        fresh.frames("at the end");
        used.frames("at the end");
        CHECK.finish();
    }

    /** Beside the small ones, those that an index sum or a product would wrap round to a small one. */
    private static Set<Integer> wideInts() {
        Set<Integer> wide = new TreeSet<>();
        for (int near = -34; near <= 34; near++) {
            for (int bit = 5; bit <= 31; bit++) {
                for (int times : new int[] {-3, -1, 0, 1, 3}) {
                    wide.add(times * (1 << bit) + near);
                }
            }
            wide.add(PvqBandCodec.NONE + near);
            wide.add(Model.size(8, 16) + near);
            wide.add(Model.size(3, 4) + near);
        }
        return wide;
    }

    private static void counts(int w) {
        for (int band = 0; band < 4; band++) {
            int[] k = COUNTS.clone();
            k[band] = w;
            PvqBandCodec silent = Frames.codec(k);
            silent.encodeFrame();
            for (int b = 0; b < 4; b++) {
                // A silent band has all its pulses on its first position.
                CHECK.due("k" + band + " = " + w + ": pulse(0, " + 8 * b + ")",
                        silent.pulse(0, 8 * b), Model.clamp(k[b], 1, 16));
            }
        }
    }

    private void use() {
        for (int pos = 0; pos < 32; pos++) {
            setCoef(pos, (pos % 3 - 1) * (40 * pos + 7));
        }
        for (int i = 0; i < 8; i++) {
            setVec(i, i / 2 - 2);
        }
        frames("once");
        setCoef(31, -900);
        frames("twice");
        putByte(3, 200);
        model.decodeFrame();
        x.decodeFrame();
        Compare.all(CHECK, name + " after its use", x, model);
    }

    private void frames(String when) {
        CHECK.due(name + ": encodeFrame() " + when, x.encodeFrame(), model.encodeFrame());
        x.decodeFrame();
        model.decodeFrame();
        Compare.all(CHECK, name + " frames " + when, x, model);
    }

    private void everyCall(int w) {
        reads(w);
        changes(w);
        Compare.all(CHECK, name + " after the calls with " + w, x, model);
    }

    private void reads(int w) {
        CHECK.due(name + ": coefAt(" + w + ")", x.coefAt(w), model.coefAt(w));
        CHECK.due(name + ": packetByte(" + w + ")", x.packetByte(w), model.packetByte(w));
        CHECK.due(name + ": decodedCoef(" + w + ")", x.decodedCoef(w), model.decodedCoef(w));
        CHECK.due(name + ": vecAt(" + w + ")", x.vecAt(w), model.vecAt(w));
        CHECK.due(name + ": vecIndex(" + w + ")", x.vecIndex(w), model.vecIndex(w));
        for (int other : new int[] {-1, 0, 1, 2, 3, 4, 8, 9, 16, 17, 31, 32, w}) {
            twoReads(w, other);
            twoReads(other, w);
        }
    }

    private void twoReads(int a, int b) {
        String both = "(" + a + ", " + b + ")";
        CHECK.due(name + ": energyQ" + both, x.energyQ(a, b), model.energyQ(a, b));
        CHECK.due(name + ": pulse" + both, x.pulse(a, b), model.pulse(a, b));
        CHECK.due(name + ": pyramidSize" + both, x.pyramidSize(a, b), model.pyramidSize(a, b));
    }

    private void changes(int w) {
        setCoef(w, 77);
        setCoef(0, w);
        setCoef(31, w);
        setCoef(w, w);
        putByte(w, 99);
        putByte(0, w);
        putByte(model.packetLength() - 1, w);
        putByte(w, w);
        vecUnindex(w, 2, 1);
        vecUnindex(8, w, 15);
        vecUnindex(3, 4, w);
        vecUnindex(8, 16, w);
        vecUnindex(w, w, w);
        setVec(w, 1);
        setVec(0, w);
        setVec(7, w);
        setVec(w, w);
    }

    private void setCoef(int pos, int value) {
        CHECK.due(name + ": setCoef(" + pos + ", " + value + ")", x.setCoef(pos, value), model.setCoef(pos, value));
    }

    private void putByte(int i, int value) {
        CHECK.due(name + ": putByte(" + i + ", " + value + ")", x.putByte(i, value), model.putByte(i, value));
    }

    private void setVec(int i, int value) {
        CHECK.due(name + ": setVec(" + i + ", " + value + ")", x.setVec(i, value), model.setVec(i, value));
    }

    private void vecUnindex(int n, int k, int idx) {
        String call = name + ": vecUnindex(" + n + ", " + k + ", " + idx + ")";
        CHECK.due(call, x.vecUnindex(n, k, idx), model.vecUnindex(n, k, idx));
        for (int i = 0; i < 8; i++) {
            CHECK.due(call + ", vecAt(" + i + ")", x.vecAt(i), model.vecAt(i));
        }
    }
}
