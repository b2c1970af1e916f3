/** Numbers that look thrown but are the same in every run. */
final class Dice {
    private long seed;

    Dice(long seed) {
        this.seed = seed * 2862933555777941757L + 3037000493L;
        below(7);
    }

    int below(int bound) {
        seed = seed * 6364136223846793005L + 1442695040888963407L;
        return (int) ((seed >>> 33) % bound);
    }

    int from(int low, int high) {
        return low + below(high - low + 1);
    }

    boolean oneIn(int n) {
        return below(n) == 0;
    }

    /** Blanks may stand between all signs: mostly none. */
    String blanks(boolean any) {
        return any && oneIn(5) ? oneIn(2) ? "  " : " " : "";
    }
}
