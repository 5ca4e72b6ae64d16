/** DRAW by the document's words, beside the program. */
final class Draws {
    private Draws() {
    }

    static int next(int seed) {
        return (int) (1103515245L * seed + 12345L);
    }

    /** Bits 16 to 30 of a seed. */
    static int bits(int seed) {
        int drawn = 0;
        for (int bit = 16; bit <= 30; bit++) {
            drawn += (seed & 1 << bit) != 0 ? 1 << (bit - 16) : 0;
        }
        return drawn;
    }

    /** The seed behind n draws. */
    static int seedBehind(int seed, int n) {
        int s = seed;
        for (int i = 0; i < n; i++) {
            s = next(s);
        }
        return s;
    }

    /** What the nth draw from a seed is, the first being 1. */
    static int of(int seed, int n) {
        return bits(seedBehind(seed, n));
    }

    /** A seed by whose draws, one after another, draw modulo the first of each two is the second. */
    static int seedWith(int... wanted) {
        for (int seed = 1; seed < 50_000_000; seed++) {
            if (fits(seed, wanted)) {
                return seed;
            }
        }
        throw new IllegalStateException("no such seed");
    }

    private static boolean fits(int seed, int[] wanted) {
        int s = seed;
        for (int i = 0; i < wanted.length; i += 2) {
            s = next(s);
            if (bits(s) % wanted[i] != wanted[i + 1]) {
                return false;
            }
        }
        return true;
    }
}
