/** The draws of a RUN, told again in whole numbers that don't wrap, and seeds looked for by them. */
abstract class Dice extends Due {
    private static final int SEEDS = 200_000_000;

    static final class Draws {
        private long z;

        Draws(int seed) {
            z = seed & 0xffffffffL;
        }

        /** What the next STEP chooses where the METHOD has n STATEMENTS. */
        int next(int n) {
            z = (z * 1664525L + 1013904223L) % (1L << 32);
            return (int) (z / 2 % (n + 1));
        }
    }

    private static boolean chooses(int seed, int n, int[] choices) {
        Draws draws = new Draws(seed);
        for (int choice : choices) {
            if (draws.next(n) != choice) {
                return false;
            }
        }
        return true;
    }

    /** A seed whose first STEPS make these choices, all METHODS having n STATEMENTS. */
    static int seedFor(int n, int... choices) {
        for (int seed = 0; seed < SEEDS; seed++) {
            if (chooses(seed, n, choices)) {
                return seed;
            }
        }
        throw new IllegalStateException("no seed found");
    }

    /** The STEP, from 1, that chooses this for the first time; 301 if none of 300 does. */
    static int stepOfFirst(int seed, int n, int choice) {
        Draws draws = new Draws(seed);
        int step = 1;
        while (step <= 300 && draws.next(n) != choice) {
            step++;
        }
        return step;
    }

    static int seedForFirst(int n, int choice, int step) {
        for (int seed = 0; seed < SEEDS; seed++) {
            if (stepOfFirst(seed, n, choice) == step) {
                return seed;
            }
        }
        throw new IllegalStateException("no seed found");
    }
}
