/** The boundary sentences of Promise 12: pyramid sizes. */
public final class Promise12BoundaryTest {
    private static final Check CHECK = new Check();
    private static final int MIN = Integer.MIN_VALUE;
    private static final int MAX = Integer.MAX_VALUE;
    private static final int[] NO_WIDTH = {MIN, MIN + 1, -1000000, -9, -8, -1, 9, 10, 17, 1 << 28, MAX};
    private static final int[] NO_COUNT = {MIN, MIN + 1, -1000000, -17, -16, -1, 17, 18, 34, 1 << 28, MAX};

    private Promise12BoundaryTest() {}

    public static void main(String[] args) {
        answersTheFourCorners();
        noneForWidthsOutside();
        noneForCountsOutside();
        noneForBothOutside();
        widthZero();
        countZero();
        theGreatest();
        changesNothing();
        CHECK.finish();
    }

    private static void sizeSentence() {
        CHECK.sentence("pyramidSize(n, k) answers V(n,k) for n in 0..8 and k in 0..16, and NONE otherwise.");
    }

    private static void answersTheFourCorners() {
        sizeSentence();
        PvqBandCodec x = new PvqBandCodec(1, 1, 1, 1);
        CHECK.due("pyramidSize(0, 0)", x.pyramidSize(0, 0), 1);
        CHECK.due("pyramidSize(0, 16)", x.pyramidSize(0, 16), 0);
        CHECK.due("pyramidSize(8, 0)", x.pyramidSize(8, 0), 1);
        CHECK.due("pyramidSize(8, 16)", x.pyramidSize(8, 16), 15158272);
        CHECK.due("pyramidSize(1, 16)", x.pyramidSize(1, 16), 2);
        CHECK.due("pyramidSize(8, 1)", x.pyramidSize(8, 1), 16);
        CHECK.due("pyramidSize(7, 16)", x.pyramidSize(7, 16), 3188738);
        CHECK.due("pyramidSize(8, 15)", x.pyramidSize(8, 15), 9785072);
    }

    /** A row or column too far in one table would answer another pyramid's size here. */
    private static void noneForWidthsOutside() {
        sizeSentence();
        PvqBandCodec x = new PvqBandCodec(1, 1, 1, 1);
        for (int n : NO_WIDTH) {
            for (int k = 0; k <= 16; k++) {
                CHECK.due("pyramidSize(" + n + ", " + k + ")", x.pyramidSize(n, k), -1000000);
            }
        }
    }

    private static void noneForCountsOutside() {
        sizeSentence();
        PvqBandCodec x = new PvqBandCodec(1, 1, 1, 1);
        for (int k : NO_COUNT) {
            for (int n = 0; n <= 8; n++) {
                CHECK.due("pyramidSize(" + n + ", " + k + ")", x.pyramidSize(n, k), -1000000);
            }
        }
    }

    private static void noneForBothOutside() {
        sizeSentence();
        PvqBandCodec x = new PvqBandCodec(1, 1, 1, 1);
        for (int n : NO_WIDTH) {
            for (int k : NO_COUNT) {
                CHECK.due("pyramidSize(" + n + ", " + k + ")", x.pyramidSize(n, k), -1000000);
            }
        }
    }

    private static void widthZero() {
        CHECK.sentence("In particular pyramidSize(0,0) = 1, pyramidSize(0,k) = 0 for k in 1..16");
        PvqBandCodec x = new PvqBandCodec(1, 1, 1, 1);
        for (int k = 0; k <= 16; k++) {
            CHECK.due("pyramidSize(0, " + k + ")", x.pyramidSize(0, k), k == 0 ? 1 : 0);
        }
    }

    private static void countZero() {
        CHECK.sentence("pyramidSize(n,0) = 1 for n in 0..8");
        PvqBandCodec x = new PvqBandCodec(1, 1, 1, 1);
        for (int n = 0; n <= 8; n++) {
            CHECK.due("pyramidSize(" + n + ", 0)", x.pyramidSize(n, 0), 1);
        }
    }

    /** The same whatever counts the object has, and whatever it has done. */
    private static void theGreatest() {
        CHECK.sentence("and pyramidSize(8,16) = 15158272.");
        CHECK.due("pyramidSize(8, 16)", new PvqBandCodec(1, 1, 1, 1).pyramidSize(8, 16), 15158272);
        CHECK.due("pyramidSize(8, 16)", new PvqBandCodec(16, 16, 16, 16).pyramidSize(8, 16), 15158272);
        CHECK.due("pyramidSize(8, 16)", State.busy().pyramidSize(8, 16), 15158272);
    }

    private static void changesNothing() {
        CHECK.sentence("Changes nothing.");
        Twins twins = new Twins(State::busy);
        for (int n = -2; n <= 10; n++) {
            for (int k = -2; k <= 18; k++) {
                twins.touched.pyramidSize(n, k);
            }
        }
        twins.dueSame(CHECK, "pyramidSize");
    }
}
