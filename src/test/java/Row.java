/** A fixed row of numbers that looks picked by chance: a test has to be the same at every run. */
final class Row {
    private long state;

    Row(long start) {
        state = start;
    }

    /** A number from 0 to bound - 1. */
    int pick(int bound) {
        state = state * 6364136223846793005L + 1442695040888963407L;
        return (int) ((state >>> 33) % bound);
    }
}
