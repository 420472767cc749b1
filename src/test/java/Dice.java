/** Numbers that look thrown but are the same in every run of the tests. */
final class Dice {
    private long state;

    Dice(long seed) {
        state = seed * 2862933555777941757L + 3037000493L;
    }

    /** A number from 0 to sides - 1. */
    int roll(int sides) {
        state = state * 6364136223846793005L + 1442695040888963407L;
        return (int) ((state >>> 33) % sides);
    }

    boolean oneIn(int sides) {
        return roll(sides) == 0;
    }
}
