/** The same row of scattered numbers for the same seed. */
final class Numbers {
    private long state;

    Numbers(long seed) {
        state = seed;
    }

    /** A number of 0..bound-1. */
    int below(int bound) {
        state = state * 6364136223846793005L + 1442695040888963407L;
        return (int) ((state >>> 33) % bound);
    }
}
