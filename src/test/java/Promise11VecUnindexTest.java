import java.util.List;

/** Promise 11: unindexing into the scratch vector. */
public final class Promise11VecUnindexTest {
    private static final Check CHECK = new Check();

    private Promise11VecUnindexTest() {}

    public static void main(String[] args) {
        listsSmallPyramids();
        walksGreatPyramids();
        refuses();
        changesNothingElse();
        CHECK.finish();
    }

    private static void listsSmallPyramids() {
        PvqBandCodec x = new PvqBandCodec(1, 1, 1, 1);
        for (int n = 1; n <= 8; n++) {
            int most = n <= 3 ? 16 : n <= 5 ? 6 : 4;
            for (int k = 0; k <= most; k++) {
                List<int[]> all = Pyramid.vectors(n, k);
                for (int i = 0; i < all.size(); i++) {
                    soil(x);
                    dueVector(x, n, k, i, all.get(i));
                }
                CHECK.due("past the end of " + n + ", " + k, x.vecUnindex(n, k, all.size()), false);
            }
        }
    }

    /** The cells behind the vector must become 0, so they start as something else. */
    private static void soil(PvqBandCodec x) {
        for (int i = 0; i < 8; i++) {
            x.setVec(i, 9 - i);
        }
    }

    private static void dueVector(PvqBandCodec x, int n, int k, int idx, int[] y) {
        String call = "vecUnindex(" + n + ", " + k + ", " + idx + ")";
        CHECK.due(call, x.vecUnindex(n, k, idx), true);
        for (int j = 0; j < 8; j++) {
            CHECK.due("vecAt(" + j + ") after " + call, x.vecAt(j), j < n ? y[j] : 0);
        }
        CHECK.due("vecIndex(" + n + ") after " + call, x.vecIndex(n), idx);
    }

    private static void walksGreatPyramids() {
        PvqBandCodec x = new PvqBandCodec(1, 1, 1, 1);
        for (int n = 1; n <= 8; n++) {
            for (int k = 0; k <= 16; k++) {
                int size = x.pyramidSize(n, k);
                int stride = size / 500 + 1;
                for (int idx = 0; idx < size; idx += stride) {
                    soil(x);
                    dueVector(x, n, k, idx, Model.unindex(n, k, idx));
                }
                soil(x);
                dueVector(x, n, k, size - 1, Model.unindex(n, k, size - 1));
            }
        }
    }

    private static void dueRefused(PvqBandCodec x, int n, int k, int idx) {
        String before = State.whole(x);
        String call = "vecUnindex(" + n + ", " + k + ", " + idx + ")";
        CHECK.due(call, x.vecUnindex(n, k, idx), false);
        CHECK.due("state after " + call, State.whole(x), before);
    }

    private static void refuses() {
        PvqBandCodec x = State.busy();
        int[] noWidth = {Integer.MIN_VALUE, -1000000, -8, -1, 0, 9, 10, Integer.MAX_VALUE};
        for (int n : noWidth) {
            dueRefused(x, n, 0, 0);
            dueRefused(x, n, 3, 1);
            dueRefused(x, n, -1, -1);
        }
        int[] noCount = {Integer.MIN_VALUE, -1000000, -16, -1, 17, 18, Integer.MAX_VALUE};
        for (int k : noCount) {
            dueRefused(x, 1, k, 0);
            dueRefused(x, 8, k, 0);
            dueRefused(x, 4, k, -1);
        }
        for (int n = 1; n <= 8; n++) {
            for (int k = 0; k <= 16; k++) {
                int size = Model.size(n, k);
                int[] noIndex = {Integer.MIN_VALUE, -1000000, -1, size, size + 1, Integer.MAX_VALUE};
                for (int idx : noIndex) {
                    dueRefused(x, n, k, idx);
                }
            }
        }
    }

    private static void changesNothingElse() {
        PvqBandCodec x = State.busy();
        String inputs = State.inputs(x);
        String encoder = State.encoder(x);
        String decoder = State.decoder(x);
        String packet = State.packet(x);
        CHECK.due("vecUnindex(8, 16, 7654321)", x.vecUnindex(8, 16, 7654321), true);
        CHECK.due("inputs", State.inputs(x), inputs);
        CHECK.due("encoder", State.encoder(x), encoder);
        CHECK.due("decoder", State.decoder(x), decoder);
        CHECK.due("packet", State.packet(x), packet);
    }
}
