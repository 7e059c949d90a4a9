/** Long irregular runs of calls, each answer compared with the model's: all promises together. */
public final class ModelRunsTest {
    private static final Check CHECK = new Check();
    private static final int[] WILD = {
        Integer.MIN_VALUE, Integer.MIN_VALUE + 1, -1000000, -65536, -257, -256, -255, -33, -17, -1, 0, 1, 2,
        7, 8, 9, 15, 16, 17, 31, 32, 33, 63, 64, 65, 255, 256, 32767, 32768, 65536, Integer.MAX_VALUE
    };

    private ModelRunsTest() {}

    public static void main(String[] args) {
        for (int run = 0; run < 400; run++) {
            Numbers numbers = new Numbers(1000 + run);
            int[] k = new int[4];
            for (int b = 0; b < 4; b++) {
                k[b] = run % 17 == 0 ? WILD[numbers.below(WILD.length)] : numbers.between(1, 16);
            }
            PvqBandCodec x = new PvqBandCodec(k[0], k[1], k[2], k[3]);
            Model model = new Model(k);
            for (int step = 0; step < 300; step++) {
                String call = oneCall(x, model, numbers);
                Compare.all(CHECK, "run " + run + " step " + step + " after " + call, x, model);
            }
        }
        CHECK.finish();
    }

    private static int wildOr(Numbers numbers, int lo, int hi) {
        return numbers.below(12) == 0 ? WILD[numbers.below(WILD.length)] : numbers.between(lo, hi);
    }

    private static int coefficient(Numbers numbers) {
        int bits = numbers.below(17);
        return wildOr(numbers, -(1 << bits), 1 << bits);
    }

    private static String oneCall(PvqBandCodec x, Model model, Numbers numbers) {
        switch (numbers.below(9)) {
            case 0:
                return setCoefs(x, model, numbers);
            case 1:
            case 2:
                CHECK.due("encodeFrame()", x.encodeFrame(), model.encodeFrame());
                return "encodeFrame()";
            case 3:
            case 4:
                x.decodeFrame();
                model.decodeFrame();
                return "decodeFrame()";
            case 5:
                return putBytes(x, model, numbers);
            case 6:
                return setVecs(x, model, numbers);
            case 7: {
                int n = wildOr(numbers, 1, 8);
                int k = wildOr(numbers, 0, 16);
                int size = Math.max(1, model.pyramidSize(n, k));
                int idx = wildOr(numbers, 0, size);
                String call = "vecUnindex(" + n + ", " + k + ", " + idx + ")";
                CHECK.due(call, x.vecUnindex(n, k, idx), model.vecUnindex(n, k, idx));
                return call;
            }
            default: {
                int n = WILD[numbers.below(WILD.length)];
                int k = WILD[numbers.below(WILD.length)];
                String args = "(" + n + ", " + k + ")";
                CHECK.due("pyramidSize" + args, x.pyramidSize(n, k), model.pyramidSize(n, k));
                CHECK.due("energyQ" + args, x.energyQ(n, k), model.energyQ(n, k));
                CHECK.due("pulse" + args, x.pulse(n, k), model.pulse(n, k));
                return "reads" + args;
            }
        }
    }

    private static String setCoefs(PvqBandCodec x, Model model, Numbers numbers) {
        int count = numbers.between(1, 32);
        for (int i = 0; i < count; i++) {
            int pos = wildOr(numbers, 0, 31);
            int value = coefficient(numbers);
            CHECK.due("setCoef(" + pos + ", " + value + ")", x.setCoef(pos, value), model.setCoef(pos, value));
        }
        return "setCoef";
    }

    private static String putBytes(PvqBandCodec x, Model model, Numbers numbers) {
        int count = numbers.between(1, 20);
        int kind = numbers.below(3);
        for (int i = 0; i < count; i++) {
            int at = wildOr(numbers, 0, model.packetLength());
            int value = kind == 0 ? 255 : wildOr(numbers, -300, 300);
            CHECK.due("putByte(" + at + ", " + value + ")", x.putByte(at, value), model.putByte(at, value));
        }
        return "putByte";
    }

    private static String setVecs(PvqBandCodec x, Model model, Numbers numbers) {
        int span = numbers.between(1, 5);
        for (int i = 0; i < 8; i++) {
            int at = wildOr(numbers, 0, 7);
            int value = wildOr(numbers, -span, span);
            CHECK.due("setVec(" + at + ", " + value + ")", x.setVec(at, value), model.setVec(at, value));
        }
        return "setVec";
    }
}
