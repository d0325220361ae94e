/** Numbers that look random and are the same in every run. */
final class Dice {
    private long seed;

    Dice(long seed) {
        this.seed = seed * 0x9E3779B97F4A7C15L + 1;
    }

    /** One of 0..sides - 1. */
    int roll(int sides) {
        seed = seed * 6364136223846793005L + 1442695040888963407L;
        return (int) ((seed >>> 33) % sides);
    }

    int of(int... choices) {
        return choices[roll(choices.length)];
    }
}
