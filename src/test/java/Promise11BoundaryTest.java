/** The boundary sentences of Promise 11: unindexing into the scratch vector. */
public final class Promise11BoundaryTest {
    private static final Check CHECK = new Check();
    private static final int MIN = Integer.MIN_VALUE;
    private static final int MAX = Integer.MAX_VALUE;

    private Promise11BoundaryTest() {}

    public static void main(String[] args) {
        refusesWidthsOutside();
        refusesCountsOutside();
        refusesIndicesBelowZero();
        refusesIndicesAtTheSize();
        takesTheFirstAndTheLast();
        takesNoPulsesAtAll();
        clearsTheTail();
        changesNothingElse();
        comesBackTogetherWithVecIndex();
        CHECK.finish();
    }

    /** Which of the four reasons comes first can't be seen: each answers false and changes nothing. */
    private static void dueRefused(int n, int k, int idx) {
        Twins twins = new Twins(State::busy);
        String call = "vecUnindex(" + n + ", " + k + ", " + idx + ")";
        CHECK.due(call, twins.touched.vecUnindex(n, k, idx), false);
        twins.dueSame(CHECK, call);
    }

    /** Width 0 has one vector of no pulses, and is refused all the same. */
    private static void refusesWidthsOutside() {
        CHECK.sentence("vecUnindex(n, k, idx) examines, in order: n outside 1..8");
        for (int n : new int[] {MIN, -1000000, -8, -1, 0, 9, 10, 17, MAX}) {
            for (int k : new int[] {MIN, -1, 0, 1, 16, 17, MAX}) {
                dueRefused(n, k, 0);
                dueRefused(n, k, -1);
                dueRefused(n, k, MAX);
            }
        }
    }

    private static void refusesCountsOutside() {
        CHECK.sentence("vecUnindex(n, k, idx) examines, in order: ... k outside 0..16");
        for (int n = 1; n <= 8; n++) {
            for (int k : new int[] {MIN, -1000000, -16, -1, 17, 18, 33, MAX}) {
                dueRefused(n, k, 0);
                dueRefused(n, k, -1);
                dueRefused(n, k, 1);
            }
        }
    }

    private static void refusesIndicesBelowZero() {
        CHECK.sentence("vecUnindex(n, k, idx) examines, in order: ... idx < 0");
        for (int n = 1; n <= 8; n++) {
            for (int k = 0; k <= 16; k++) {
                dueRefused(n, k, -1);
                dueRefused(n, k, MIN);
                dueRefused(n, k, -Model.size(n, k));
            }
        }
    }

    private static void refusesIndicesAtTheSize() {
        CHECK.sentence("vecUnindex(n, k, idx) examines, in order: ... idx >= V(n,k); in each of these cases it is"
                + " refused (false, nothing changes).");
        for (int n = 1; n <= 8; n++) {
            for (int k = 0; k <= 16; k++) {
                dueRefused(n, k, Model.size(n, k));
                dueRefused(n, k, Model.size(n, k) + 1);
                dueRefused(n, k, MAX);
            }
        }
    }

    private static void dueCells(PvqBandCodec x, int n, int k, int idx, int cell, int value) {
        String call = "vecUnindex(" + n + ", " + k + ", " + idx + ")";
        for (int i = 0; i < 8; i++) {
            x.setVec(i, 16 - i);
        }
        CHECK.due(call, x.vecUnindex(n, k, idx), true);
        for (int i = 0; i < 8; i++) {
            CHECK.due("vecAt(" + i + ") after " + call, x.vecAt(i), i == cell ? value : 0);
        }
    }

    private static void takesTheFirstAndTheLast() {
        CHECK.sentence("Otherwise cells 0..n-1 become the y of P(n,k) with I(y;n,k) = idx");
        PvqBandCodec x = new PvqBandCodec(1, 1, 1, 1);
        for (int n = 1; n <= 8; n++) {
            for (int k = 1; k <= 16; k++) {
                int size = Model.size(n, k);
                dueCells(x, n, k, 0, n - 1, k);
                dueCells(x, n, k, 1, n - 1, -k);
                dueCells(x, n, k, size - 2, 0, k);
                dueCells(x, n, k, size - 1, 0, -k);
            }
        }
        dueCells(x, 8, 16, 15158271, 0, -16);
    }

    private static void takesNoPulsesAtAll() {
        CHECK.sentence("Otherwise cells 0..n-1 become the y of P(n,k) with I(y;n,k) = idx");
        PvqBandCodec x = new PvqBandCodec(1, 1, 1, 1);
        for (int n = 1; n <= 8; n++) {
            dueCells(x, n, 0, 0, 0, 0);
            CHECK.due("vecUnindex(" + n + ", 0, 1)", x.vecUnindex(n, 0, 1), false);
        }
    }

    private static void clearsTheTail() {
        CHECK.sentence("cells n..7 become 0, and the answer is true.");
        PvqBandCodec x = new PvqBandCodec(1, 1, 1, 1);
        for (int n = 1; n <= 8; n++) {
            for (int old : new int[] {-16, -1, 1, 16}) {
                for (int i = 0; i < 8; i++) {
                    x.setVec(i, old);
                }
                int idx = Model.size(n, 7) / 2;
                CHECK.due("vecUnindex(" + n + ", 7, " + idx + ")", x.vecUnindex(n, 7, idx), true);
                int[] y = Model.unindex(n, 7, idx);
                for (int i = 0; i < 8; i++) {
                    CHECK.due("vecAt(" + i + ") after width " + n, x.vecAt(i), i < n ? y[i] : 0);
                }
            }
        }
    }

    private static void changesNothingElse() {
        CHECK.sentence("Otherwise cells 0..n-1 become the y of P(n,k) with I(y;n,k) = idx, cells n..7 become 0, and the"
                + " answer is true.");
        PvqBandCodec unindexed = State.busy();
        String before = State.whole(unindexed).replace(State.scratch(unindexed), "");
        for (int n = 1; n <= 8; n++) {
            unindexed.vecUnindex(n, 16, Model.size(n, 16) - 1);
            CHECK.due("the rest", State.whole(unindexed).replace(State.scratch(unindexed), ""), before);
        }
    }

    /** Every vector of the small pyramids, and of the great ones those about the ends and a walk between. */
    private static void comesBackTogetherWithVecIndex() {
        CHECK.sentence("Together with vecIndex: whenever n is in 1..8 and cells 0..n-1 have absolute values summing to k"
                + " <= 16, i = vecIndex(n) satisfies 0 <= i < pyramidSize(n,k); vecUnindex(n,k,i) then answers true,"
                + " afterwards vecAt(j) equals its earlier value for every j < n, and vecIndex(n) again answers i.");
        PvqBandCodec x = new PvqBandCodec(1, 1, 1, 1);
        for (int n = 1; n <= 8; n++) {
            for (int k = 0; k <= 16; k++) {
                int size = Model.size(n, k);
                int stride = size / 2000 + 1;
                for (int at = 0; at < size; at += stride) {
                    thereAndBack(x, Model.unindex(n, k, at), k, at % 3 == 0 ? 0 : at % 3 == 1 ? 16 : -7);
                }
                for (int at = Math.max(0, size - 3); at < size; at++) {
                    thereAndBack(x, Model.unindex(n, k, at), k, -16);
                }
            }
        }
    }

    private static void thereAndBack(PvqBandCodec x, int[] y, int k, int tail) {
        int n = y.length;
        for (int j = 0; j < 8; j++) {
            x.setVec(j, j < n ? y[j] : tail);
        }
        int i = x.vecIndex(n);
        String call = "vecUnindex(" + n + ", " + k + ", " + i + ")";
        CHECK.due("vecIndex(" + n + ") lies in the pyramid: " + i, i >= 0 && i < x.pyramidSize(n, k), true);
        CHECK.due(call, x.vecUnindex(n, k, i), true);
        for (int j = 0; j < 8; j++) {
            CHECK.due("vecAt(" + j + ") after " + call, x.vecAt(j), j < n ? y[j] : 0);
        }
        CHECK.due("vecIndex(" + n + ") after " + call, x.vecIndex(n), i);
    }
}
