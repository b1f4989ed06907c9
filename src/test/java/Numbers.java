/** A fixed run of numbers that looks mixed, so that every run of a test makes the same calls. */
final class Numbers {
    private long state;

    Numbers(long seed) {
        state = seed;
    }

    int next() {
        state = state * 6364136223846793005L + 1442695040888963407L;
        return (int) (state >>> 32);
    }

    int below(int bound) {
        return (int) ((next() & 0xffffffffL) % bound);
    }
}
