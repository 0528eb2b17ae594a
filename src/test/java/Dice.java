/** Throws that are the same in every run of the tests. */
final class Dice {
    private long state;

    Dice(long seed) {
        state = seed * 0x9E3779B97F4A7C15L + 0x1234567L;
    }

    int below(int n) {
        state = state * 6364136223846793005L + 1442695040888963407L;
        return (int) ((state >>> 33) % n);
    }

    /** True in so many of a hundred throws. */
    boolean in100(int times) {
        return below(100) < times;
    }

    String oneOf(String... all) {
        return all[below(all.length)];
    }
}
