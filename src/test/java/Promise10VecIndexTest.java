import java.util.List;

/** Promise 10: the index of the scratch vector. */
public final class Promise10VecIndexTest {
    private static final Check CHECK = new Check();

    private Promise10VecIndexTest() {}

    public static void main(String[] args) {
        countsSmallPyramids();
        knowsTheEnds();
        refusesOutside();
        refusesTooManyPulses();
        leavesTheTailOut();
        changesNothing();
        CHECK.finish();
    }

    private static void fill(PvqBandCodec x, int... y) {
        for (int i = 0; i < y.length; i++) {
            x.setVec(i, y[i]);
        }
    }

    private static void countsSmallPyramids() {
        PvqBandCodec x = new PvqBandCodec(1, 1, 1, 1);
        for (int n = 1; n <= 8; n++) {
            int most = n <= 3 ? 16 : n <= 5 ? 6 : 4;
            for (int k = 0; k <= most; k++) {
                List<int[]> all = Pyramid.vectors(n, k);
                for (int i = 0; i < all.size(); i++) {
                    fill(x, all.get(i));
                    CHECK.due("vecIndex(" + n + ") of " + java.util.Arrays.toString(all.get(i)), x.vecIndex(n), i);
                }
            }
        }
    }

    private static void knowsTheEnds() {
        PvqBandCodec x = new PvqBandCodec(1, 1, 1, 1);
        fill(x, 0, 0, 0, 0, 0, 0, 0, 16);
        CHECK.due("the first", x.vecIndex(8), 0);
        fill(x, 0, 0, 0, 0, 0, 0, 0, -16);
        CHECK.due("the second", x.vecIndex(8), 1);
        fill(x, 16, 0, 0, 0, 0, 0, 0, 0);
        CHECK.due("the last but one", x.vecIndex(8), 15158270);
        fill(x, -16, 0, 0, 0, 0, 0, 0, 0);
        CHECK.due("the last", x.vecIndex(8), 15158271);
        CHECK.due("the last of one cell", x.vecIndex(1), 1);
        fill(x, 2, -5, 0, 9);
        CHECK.due("2 -5 0 9", x.vecIndex(4), 3290);
        fill(x, 0, 0, 0, 0, 0, 0, 0, 0);
        for (int n = 1; n <= 8; n++) {
            CHECK.due("zeros, vecIndex(" + n + ")", x.vecIndex(n), 0);
        }
    }

    private static void refusesOutside() {
        PvqBandCodec x = new PvqBandCodec(1, 1, 1, 1);
        int[] outside = {Integer.MIN_VALUE, -1000000, -8, -1, 0, 9, 10, 16, Integer.MAX_VALUE};
        for (int n : outside) {
            CHECK.due("vecIndex(" + n + ")", x.vecIndex(n), -1000000);
        }
    }

    private static void refusesTooManyPulses() {
        PvqBandCodec x = new PvqBandCodec(1, 1, 1, 1);
        fill(x, 2, -2, 2, -2, 2, -2, 2, -2);
        CHECK.due("sixteen", x.vecIndex(8), Model.index(new int[] {2, -2, 2, -2, 2, -2, 2, -2}));
        fill(x, 2, -2, 2, -2, 2, -2, 2, -3);
        CHECK.due("seventeen", x.vecIndex(8), -1000000);
        CHECK.due("fourteen", x.vecIndex(7), Model.index(new int[] {2, -2, 2, -2, 2, -2, 2}));
        fill(x, 16, -16, 16, -16, 16, -16, 16, -16);
        CHECK.due("the most", x.vecIndex(8), -1000000);
        CHECK.due("two full cells", x.vecIndex(2), -1000000);
        CHECK.due("one full cell", x.vecIndex(1), 0);
        fill(x, 16, 1, 0, 0, 0, 0, 0, 0);
        CHECK.due("one too many", x.vecIndex(2), -1000000);
        fill(x, 16, -1, 0, 0, 0, 0, 0, 0);
        CHECK.due("one too many below 0", x.vecIndex(2), -1000000);
    }

    private static void leavesTheTailOut() {
        PvqBandCodec x = new PvqBandCodec(1, 1, 1, 1);
        fill(x, 1, -1, 2, 16, -16, 16, -16, 16);
        int plain = Model.index(new int[] {1, -1, 2});
        CHECK.due("with a tail", x.vecIndex(3), plain);
        fill(x, 1, -1, 2, 0, 0, 0, 0, 0);
        CHECK.due("without", x.vecIndex(3), plain);
    }

    private static void changesNothing() {
        PvqBandCodec x = State.busy();
        x.setVec(0, 3);
        String before = State.whole(x);
        for (int n = -1; n < 10; n++) {
            x.vecIndex(n);
        }
        CHECK.due("state after indexing", State.whole(x), before);
    }
}
