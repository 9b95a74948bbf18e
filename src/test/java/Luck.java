/** Numbers for the tests that look as if drawn, and are always the same. */
final class Luck {
    private long state;

    Luck(long seed) {
        state = seed * 0x9E3779B97F4A7C15L + 77;
    }

    int below(int many) {
        state = state * 6364136223846793005L + 1442695040888963407L;
        return (int) ((state >>> 33) % many);
    }

    boolean once(int in) {
        return below(in) == 0;
    }
}
