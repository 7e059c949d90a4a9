/** Promise 12: the sizes of all pyramids, NONE outside. */
public final class Promise12PyramidSizeTest {
    private static final Check CHECK = new Check();
    private static final int[] WIDTH_8 = {
        1, 16, 128, 688, 2816, 9424, 27008, 68464, 157184, 332688, 658048, 1229360, 2187520, 3732560, 6140800,
        9785072, 15158272
    };

    private Promise12PyramidSizeTest() {}

    public static void main(String[] args) {
        PvqBandCodec x = State.busy();
        String before = State.whole(x);
        knowsTheNamedSizes(x);
        countsVectors(x);
        refusesOutside(x);
        CHECK.due("state after asking", State.whole(x), before);
        CHECK.finish();
    }

    private static void knowsTheNamedSizes(PvqBandCodec x) {
        for (int k = 0; k <= 16; k++) {
            CHECK.due("pyramidSize(0, " + k + ")", x.pyramidSize(0, k), k == 0 ? 1 : 0);
            CHECK.due("pyramidSize(1, " + k + ")", x.pyramidSize(1, k), k == 0 ? 1 : 2);
            CHECK.due("pyramidSize(2, " + k + ")", x.pyramidSize(2, k), k == 0 ? 1 : 4 * k);
            CHECK.due("pyramidSize(3, " + k + ")", x.pyramidSize(3, k), k == 0 ? 1 : 4 * k * k + 2);
            CHECK.due("pyramidSize(8, " + k + ")", x.pyramidSize(8, k), WIDTH_8[k]);
        }
        CHECK.due("pyramidSize(4, 16)", x.pyramidSize(4, 16), 11008);
        for (int n = 0; n <= 8; n++) {
            CHECK.due("pyramidSize(" + n + ", 0)", x.pyramidSize(n, 0), 1);
            CHECK.due("pyramidSize(" + n + ", 1)", x.pyramidSize(n, 1), 2 * n);
        }
    }

    private static void countsVectors(PvqBandCodec x) {
        for (int n = 0; n <= 8; n++) {
            for (int k = 0; k <= 16; k++) {
                CHECK.due("pyramidSize(" + n + ", " + k + ")", x.pyramidSize(n, k), Model.size(n, k));
                if (n <= 4 || k <= 5) {
                    CHECK.due("the vectors of " + n + ", " + k, x.pyramidSize(n, k), Pyramid.vectors(n, k).size());
                }
            }
        }
    }

    private static void refusesOutside(PvqBandCodec x) {
        int[] noWidth = {Integer.MIN_VALUE, -1000000, -8, -1, 9, 10, 17, Integer.MAX_VALUE};
        int[] noCount = {Integer.MIN_VALUE, -1000000, -16, -1, 17, 18, 34, Integer.MAX_VALUE};
        for (int n : noWidth) {
            for (int k = 0; k <= 16; k++) {
                CHECK.due("pyramidSize(" + n + ", " + k + ")", x.pyramidSize(n, k), -1000000);
            }
            for (int k : noCount) {
                CHECK.due("pyramidSize(" + n + ", " + k + ")", x.pyramidSize(n, k), -1000000);
            }
        }
        for (int k : noCount) {
            for (int n = 0; n <= 8; n++) {
                CHECK.due("pyramidSize(" + n + ", " + k + ")", x.pyramidSize(n, k), -1000000);
            }
        }
    }
}
