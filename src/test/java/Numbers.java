/** Numbers that look mixed but are the same in each run of a test. */
final class Numbers {
    private long seed;

    Numbers(long seed) {
        this.seed = seed;
    }

    /** From 0 to bound - 1. */
    int next(int bound) {
        seed = seed * 6364136223846793005L + 1442695040888963407L;
        return (int) ((seed >>> 33) % bound);
    }

    int between(int low, int high) {
        return low + next(high - low + 1);
    }
}
