/** A fixed row of numbers that look thrown, so that every run of a test is the same. */
final class Thrown {
    private long state;

    Thrown(long start) {
        state = start;
    }

    int between(int low, int high) {
        state = state * 6364136223846793005L + 1442695040888963407L;
        return low + (int) ((state >>> 33) % (high - low + 1));
    }

    boolean onceIn(int times) {
        return between(1, times) == 1;
    }
}
