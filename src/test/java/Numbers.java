/** A fixed sequence of numbers that looks irregular: the same in every run. */
final class Numbers {
    private long state;

    Numbers(long seed) {
        state = seed;
    }

    /** A number in 0..bound-1. */
    int below(int bound) {
        state = state * 6364136223846793005L + 1442695040888963407L;
        return (int) ((state >>> 33) % bound);
    }

    int between(int lo, int hi) {
        return lo + below(hi - lo + 1);
    }
}
