/** Numbers that look thrown and are the same in every run: a linear congruence of fixed seed. */
final class Dice {
    private long state;

    Dice(long seed) {
        state = seed * 0x9E3779B97F4A7C15L + 1;
    }

    /** A number from 0 to bound - 1. */
    int below(int bound) {
        state = state * 6364136223846793005L + 1442695040888963407L;
        return (int) ((state >>> 33) % bound);
    }

    /** Mostly small numbers about the edges that the document names, sometimes the ends of int. */
    int anyNumber() {
        switch (below(12)) {
            case 0:
                return Integer.MIN_VALUE;
            case 1:
                return Integer.MAX_VALUE;
            case 2:
                return (int) ((state >>> 20) * 31);
            default:
                return below(13) - 2;
        }
    }
}
