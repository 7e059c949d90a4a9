/** The boundary sentences of Promise 9: scratch vector cells. */
public final class Promise09BoundaryTest {
    private static final Check CHECK = new Check();
    private static final int MIN = Integer.MIN_VALUE;
    private static final int MAX = Integer.MAX_VALUE;
    private static final int[] OUTSIDE = {MIN, MIN + 1, -1000000, -9, -8, -7, -1, 8, 9, 15, 16, 1 << 29, MAX};

    private Promise09BoundaryTest() {}

    public static void main(String[] args) {
        refusesOutside();
        takesTheFirstAndTheLast();
        clampsAtBothEnds();
        changesNothingElse();
        answersNoneOutside();
        readingChangesNothing();
        CHECK.finish();
    }

    private static void refusesOutside() {
        CHECK.sentence("Refused (false, nothing changes) if i is outside 0..7.");
        for (int i : OUTSIDE) {
            for (int value : new int[] {MIN, 0, 9, MAX}) {
                Twins twins = new Twins(State::busy);
                CHECK.due("setVec(" + i + ", " + value + ")", twins.touched.setVec(i, value), false);
                twins.dueSame(CHECK, "setVec(" + i + ", " + value + ")");
            }
        }
    }

    private static void takesTheFirstAndTheLast() {
        CHECK.sentence("Otherwise cell i becomes value clamped into [-16,16] and the answer is true.");
        PvqBandCodec x = new PvqBandCodec(1, 1, 1, 1);
        CHECK.due("setVec(0, 3)", x.setVec(0, 3), true);
        CHECK.due("setVec(7, -4)", x.setVec(7, -4), true);
        CHECK.due("vecAt(0)", x.vecAt(0), 3);
        CHECK.due("vecAt(7)", x.vecAt(7), -4);
        CHECK.due("setVec(7, 0)", x.setVec(7, 0), true);
        CHECK.due("vecAt(7)", x.vecAt(7), 0);
    }

    private static void clampsAtBothEnds() {
        CHECK.sentence("Otherwise cell i becomes value clamped into [-16,16] and the answer is true.");
        int[] given = {MIN, -256, -18, -17, -16, -15, 15, 16, 17, 18, 256, MAX};
        int[] kept = {-16, -16, -16, -16, -16, -15, 15, 16, 16, 16, 16, 16};
        PvqBandCodec x = new PvqBandCodec(1, 1, 1, 1);
        for (int i = 0; i < 8; i++) {
            for (int v = 0; v < given.length; v++) {
                CHECK.due("setVec(" + i + ", " + given[v] + ")", x.setVec(i, given[v]), true);
                CHECK.due("vecAt(" + i + ") after " + given[v], x.vecAt(i), kept[v]);
            }
        }
    }

    private static void changesNothingElse() {
        CHECK.sentence("Nothing else changes.");
        for (int i = 0; i < 8; i++) {
            PvqBandCodec x = State.busy();
            String before = State.whole(x).replace(State.scratch(x), "");
            x.setVec(i, 13);
            for (int at = 0; at < 8; at++) {
                CHECK.due("vecAt(" + at + ") after setVec(" + i + ", 13)", x.vecAt(at), at == i ? 13 : at - 4);
            }
            CHECK.due("the rest after setVec(" + i + ", 13)", State.whole(x).replace(State.scratch(x), ""), before);
        }
    }

    private static void answersNoneOutside() {
        CHECK.sentence("vecAt(i) answers scratch cell i for i in 0..7, and NONE for any other i.");
        PvqBandCodec x = State.busy();
        for (int i : OUTSIDE) {
            CHECK.due("vecAt(" + i + ")", x.vecAt(i), -1000000);
        }
        for (int i = 0; i < 8; i++) {
            CHECK.due("vecAt(" + i + ")", x.vecAt(i), i - 4);
        }
    }

    private static void readingChangesNothing() {
        CHECK.sentence("vecAt ... Changes nothing.");
        Twins twins = new Twins(State::busy);
        for (int i = -10; i <= 20; i++) {
            twins.touched.vecAt(i);
        }
        twins.dueSame(CHECK, "vecAt");
    }
}
