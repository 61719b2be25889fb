import java.util.Arrays;

/**
 * What the tests by hand have in common. They extend it, as a class without a package can't be
 * imported. No test uses one object for more than 512 calls.
 */
abstract class Due {
    static final int NEW = 0;
    static final int MOVE = 1;
    static final int LOAD = 2;
    static final int STORE = 3;
    static final int CAST = 4;
    static final int GET = 5;
    static final int PUT = 6;
    static final int CALL = 7;
    static final int TAKE = 8;
    static final int LAY = 9;

    static final int FAR = Integer.MAX_VALUE;
    static final int DEEP = Integer.MIN_VALUE;
    static final int ALL_SITES = (1 << 20) - 1;

    /**
     * What p, q, r, s, t of each KIND are: n a NAME, c a CLASS, f a FIELD, v a STATIC, g a
     * SIGNATURE, a dot for what does not count.
     */
    static final String[] SHAPES = {"nc...", "nn...", "nnf..", "nnf..", "nnc..", "nv...", "vn...", "nngnn",
        "nn...", "nn..."};

    private static int wrong = 0;
    private static String sentence = "";

    /** The words of the document that the answers that follow are about. */
    static void sentence(String words) {
        sentence = words;
    }

    static void due(String call, int got, int want) {
        if (got != want) {
            wrong++;
            System.out.println(sentence + ": " + call + " answered " + got + ", due is " + want);
        }
    }

    static void end() {
        System.out.println(wrong == 0 ? "all answers are as due" : wrong + " answers are not as due");
        if (wrong != 0) {
            System.exit(1);
        }
    }

    /** A STATEMENT of which only the first three numbers count. */
    static int say(PointsToRounds x, int method, int kind, int p, int q, int r) {
        return x.statement(method, kind, p, q, r, FAR, DEEP);
    }

    /** The numbers p, q, r, s, t of a KIND, all of them 0 where they count. */
    static int[] zeros(int kind) {
        int[] numbers = new int[5];
        for (int i = 0; i < 5; i++) {
            numbers[i] = SHAPES[kind].charAt(i) == '.' ? FAR : 0;
        }
        return numbers;
    }

    static int[] with(int[] numbers, int place, int number) {
        int[] changed = Arrays.copyOf(numbers, numbers.length);
        changed[place] = number;
        return changed;
    }

    static int tell(PointsToRounds x, int method, int kind, int[] n) {
        return x.statement(method, kind, n[0], n[1], n[2], n[3], n[4]);
    }

    /** One CLASS with METHOD 0. */
    static PointsToRounds oneMethod() {
        PointsToRounds x = new PointsToRounds();
        x.cls(-1);
        x.method(0, 0);
        return x;
    }

    /** CLASSES 0, 1 UNDER 0, 2 UNDER 1, 3 alone; FIELDS 0 of 0, 1 of 1; METHOD 0 of CLASS 0. */
    static PointsToRounds family() {
        PointsToRounds x = new PointsToRounds();
        x.cls(-1);
        x.cls(0);
        x.cls(1);
        x.cls(-1);
        x.field(0);
        x.field(1);
        x.method(0, 0);
        return x;
    }

    /** CLASSES 0 .. 7, each but the first with the one before as PARENT; METHOD 0 of CLASS 0. */
    static PointsToRounds chain() {
        PointsToRounds x = new PointsToRounds();
        for (int c = 0; c < 8; c++) {
            x.cls(c - 1);
        }
        x.method(0, 0);
        return x;
    }

    /**
     * All places taken: the chain, a FIELD of each CLASS, METHODS 0 .. 9 of CLASSES 0 .. 2, 20 SITES
     * of all CLASSES, 60 STATEMENTS of all KINDS and METHODS.
     */
    static PointsToRounds full() {
        PointsToRounds x = chain();
        for (int i = 0; i < 8; i++) {
            x.field(i);
        }
        for (int m = 1; m < 10; m++) {
            x.method(m / 4, m % 4);
        }
        for (int i = 0; i < 20; i++) {
            say(x, i < 12 ? 0 : i - 10, NEW, i % 6, i % 8, FAR);
        }
        for (int i = 20; i < 60; i++) {
            int kind = 1 + i % 9;
            int[] n = zeros(kind);
            for (int k = 0; k < 5; k++) {
                char shape = SHAPES[kind].charAt(k);
                int choices = shape == 'n' ? 6 : shape == 'c' || shape == 'f' ? 8 : 4;
                n[k] = shape == '.' ? DEEP : (i * (k + 3) + i / 7) % choices;
            }
            tell(x, i < 40 ? 0 : i % 10, kind, n);
        }
        return x;
    }
}
