/** A sequence of numbers that looks random and is the same in every run. */
final class Lcg {
    private long state;

    Lcg(long seed) {
        state = seed * 0x9E3779B97F4A7C15L + 12345;
    }

    /** A number from 0 to below the bound. */
    int below(int bound) {
        state = state * 6364136223846793005L + 1442695040888963407L;
        return (int) ((state >>> 33) % bound);
    }

    boolean chance(int percent) {
        return below(100) < percent;
    }

    int anyInt() {
        return below(1 << 16) << 16 | below(1 << 16);
    }
}
