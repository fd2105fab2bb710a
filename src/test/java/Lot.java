/** LOT n of a SEED and a which, as the document tells it, in long numbers. */
final class Lot {
    private Lot() {
    }

    static int of(int n, int seed, int which) {
        long h = seed;
        for (int it : new int[] {47, which}) {
            h = ((h ^ it) & 0xffffffffL) * 1103515245L + 12345 & 0xffffffffL;
            h = h ^ h >> 15;
        }
        return (int) ((h >> 1) % n);
    }
}
