/** Numbers without a plain pattern, the same ones for the same start. */
final class Mix {
    private long seed;

    Mix(long start) {
        seed = start;
    }

    int below(int bound) {
        seed = seed * 6364136223846793005L + 1442695040888963407L;
        return (int) ((seed >>> 33) % bound);
    }
}
