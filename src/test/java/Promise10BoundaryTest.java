/** The boundary sentences of Promise 10: indexing the scratch vector. */
public final class Promise10BoundaryTest {
    private static final Check CHECK = new Check();
    private static final int[] NO_WIDTH = {
        Integer.MIN_VALUE, -1000000, -8, -1, 0, 9, 10, 16, 1 << 29, Integer.MAX_VALUE
    };

    private Promise10BoundaryTest() {}

    public static void main(String[] args) {
        refusesWidthsOutside();
        refusesMoreThanSixteen();
        refusesTheFullestCells();
        staysBelowTheSize();
        leavesTheTailOut();
        changesNothing();
        answersZeroForNothing();
        CHECK.finish();
    }

    private static void fill(PvqBandCodec x, int... y) {
        for (int i = 0; i < 8; i++) {
            x.setVec(i, i < y.length ? y[i] : 0);
        }
    }

    private static void refusesWidthsOutside() {
        CHECK.sentence("vecIndex(n) answers NONE if n is outside 1..8.");
        PvqBandCodec x = new PvqBandCodec(1, 1, 1, 1);
        dueRefused("zeros", x);
        CHECK.due("vecIndex(1) of zeros", x.vecIndex(1), 0);
        CHECK.due("vecIndex(8) of zeros", x.vecIndex(8), 0);
        fill(x, -1);
        dueRefused("-1", x);
        CHECK.due("vecIndex(1) of -1", x.vecIndex(1), 1);
        CHECK.due("vecIndex(8) of -1", x.vecIndex(8), 15);
        fill(x, 16, 16, 16, 16, 16, 16, 16, 16);
        dueRefused("full cells", x);
    }

    private static void dueRefused(String when, PvqBandCodec x) {
        for (int n : NO_WIDTH) {
            CHECK.due(when + ": vecIndex(" + n + ")", x.vecIndex(n), -1000000);
        }
    }

    /** Sixteen pulses spread over n cells in turn, then one more on each cell. One cell alone holds 16 at most. */
    private static void refusesMoreThanSixteen() {
        CHECK.sentence("Otherwise k is the sum of |cell i| for i < n; it answers NONE if k > 16.");
        PvqBandCodec x = new PvqBandCodec(1, 1, 1, 1);
        for (int n = 1; n <= 8; n++) {
            int[] y = new int[n];
            for (int i = 0; i < 16; i++) {
                y[i % n]++;
            }
            for (int i = 0; i < n; i++) {
                y[i] = i % 2 == 0 ? y[i] : -y[i];
            }
            fill(x, y);
            CHECK.due("vecIndex(" + n + ") of 16", x.vecIndex(n), Model.index(y));
            for (int i = 0; i < n && n > 1; i++) {
                fill(x, y);
                x.setVec(i, y[i] < 0 ? y[i] - 1 : y[i] + 1);
                CHECK.due("vecIndex(" + n + ") of 17, one more in " + i, x.vecIndex(n), -1000000);
                x.setVec(i, y[i] < 0 ? y[i] + 1 : y[i] - 1);
                CHECK.due("vecIndex(" + n + ") of 15 is answered", x.vecIndex(n) >= 0, true);
            }
        }
        fill(x, -17);
        CHECK.due("vecIndex(1) of -17 held to -16", x.vecIndex(1), 1);
    }

    /** The last cell that counts decides: with n cells 16, with one more 17. */
    private static void refusesTheFullestCells() {
        CHECK.sentence("Otherwise k is the sum of |cell i| for i < n; it answers NONE if k > 16.");
        PvqBandCodec x = new PvqBandCodec(1, 1, 1, 1);
        fill(x, 16, -16, 16, -16, 16, -16, 16, -16);
        CHECK.due("vecIndex(1) of a full cell", x.vecIndex(1), 0);
        for (int n = 2; n <= 8; n++) {
            CHECK.due("vecIndex(" + n + ") of full cells", x.vecIndex(n), -1000000);
        }
        for (int full = 1; full < 8; full++) {
            fill(x);
            x.setVec(full - 1, 16);
            x.setVec(full, -1);
            CHECK.due("vecIndex(" + full + ") of 16", x.vecIndex(full), 0);
            for (int n = full + 1; n <= 8; n++) {
                CHECK.due("vecIndex(" + n + ") of 17", x.vecIndex(n), -1000000);
            }
        }
    }

    private static void staysBelowTheSize() {
        CHECK.sentence("Otherwise it answers I((cell 0, ..., cell n-1); n, k), which lies in [0, pyramidSize(n,k)).");
        PvqBandCodec x = new PvqBandCodec(1, 1, 1, 1);
        for (int n = 1; n <= 8; n++) {
            for (int k = 1; k <= 16; k++) {
                int size = Model.size(n, k);
                fill(x);
                x.setVec(n - 1, k);
                CHECK.due("the first of " + n + ", " + k, x.vecIndex(n), 0);
                x.setVec(n - 1, -k);
                CHECK.due("the second of " + n + ", " + k, x.vecIndex(n), 1);
                fill(x, k);
                CHECK.due("the last but one of " + n + ", " + k, x.vecIndex(n), size - 2);
                fill(x, -k);
                CHECK.due("the last of " + n + ", " + k, x.vecIndex(n), size - 1);
            }
        }
    }

    private static void leavesTheTailOut() {
        CHECK.sentence("Cells n..7 play no part.");
        PvqBandCodec x = new PvqBandCodec(1, 1, 1, 1);
        for (int n = 1; n <= 7; n++) {
            int[] y = new int[n];
            y[0] = -2;
            y[n - 1] += 5;
            for (int tail : new int[] {-16, -1, 0, 1, 14, 16}) {
                fill(x, y);
                for (int i = n; i < 8; i++) {
                    x.setVec(i, tail);
                }
                CHECK.due("vecIndex(" + n + ") before " + tail, x.vecIndex(n), Model.index(y));
            }
        }
    }

    private static void changesNothing() {
        CHECK.sentence("It changes nothing.");
        Twins twins = new Twins(State::busy);
        for (int n = -2; n <= 10; n++) {
            twins.touched.vecIndex(n);
        }
        twins.dueSame(CHECK, "vecIndex");
        Twins full = new Twins(() -> {
            PvqBandCodec x = State.busy();
            fill(x, 16, 16, 16, 16, 16, 16, 16, 16);
            return x;
        });
        for (int n = -2; n <= 10; n++) {
            full.touched.vecIndex(n);
        }
        full.dueSame(CHECK, "vecIndex of full cells");
    }

    private static void answersZeroForNothing() {
        CHECK.sentence("When all of cells 0..n-1 are 0, k = 0 and the answer is 0.");
        PvqBandCodec x = new PvqBandCodec(1, 1, 1, 1);
        for (int n = 1; n <= 8; n++) {
            fill(x);
            CHECK.due("vecIndex(" + n + ") of zeros", x.vecIndex(n), 0);
            for (int i = n; i < 8; i++) {
                x.setVec(i, -16);
            }
            CHECK.due("vecIndex(" + n + ") of zeros before full cells", x.vecIndex(n), 0);
        }
    }
}
