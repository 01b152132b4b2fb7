/** A row of numbers that look drawn by lot and are the same in every run. */
final class Numbers {
    private long state;

    Numbers(long start) {
        state = start * 2862933555777941757L + 3037000493L;
    }

    /** A number 0 .. bound - 1. */
    int below(int bound) {
        state = state * 6364136223846793005L + 1442695040888963407L;
        return (int) ((state >>> 33) % bound);
    }

    boolean oneIn(int many) {
        return below(many) == 0;
    }
}
