/** Answers held against those that are due, and equations told by rows: what the tests of calls stand on. */
class Dues {
    static final int LEAST = Integer.MIN_VALUE;
    static final int MOST = Integer.MAX_VALUE;
    static final int[] PRIMES = {2, 3, 5, 7, 11, 13, 17, 19, 23, 29, 31};
    static final int[][] SQUARE = {{0, 0, 1}, {1, 0, 1}, {0, 1, 1}, {1, 1, 1}};
    static final int[][] WIDEST = {{0, 0, 1}, {6, 0, 1}, {0, 6, 1}, {6, 6, 1}};
    static final int[][] EIGHT = {
        {0, 0, 1}, {6, 6, -20}, {0, 6, 20}, {6, 0, -1}, {1, 2, 3}, {2, 1, 3}, {3, 3, 3}, {5, 4, 2}};

    static int promise = 0;
    private static String sentence = "";
    private static int wrong = 0;
    private static int held = 0;

    /** What the next answers are about: a promise by its number (0: ahead of the first), and its words. */
    static void says(int number, String words) {
        promise = number;
        sentence = " (" + words + ")";
    }

    static void due(String call, int got, int want) {
        held++;
        if (got != want) {
            wrong++;
            System.out.println("promise " + promise + sentence + ": " + call + " answered " + got + ", due is " + want);
        }
    }

    /** Says how many answers were held, and ends with 1, if one was wrong. */
    static void end() {
        System.out.println(held + " answers held, " + wrong + " not as due");
        if (wrong != 0 || held == 0) {
            System.exit(1);
        }
    }

    static int[] t(int i, int j, int c) {
        return new int[] {i, j, c};
    }

    static int[][] rows(int[]... rows) {
        return rows;
    }

    /** Rows of i, j, c. */
    static void tell(RootShapes x, int equation, int[]... terms) {
        for (int n = 0; n < terms.length; n++) {
            due("term " + n + " of " + equation, x.term(equation, terms[n][0], terms[n][1], terms[n][2]), n);
        }
    }

    static RootShapes made(int[][] first, int[][] second) {
        RootShapes x = new RootShapes();
        tell(x, 0, first);
        tell(x, 1, second);
        return x;
    }

    /** The first so many of eight terms. */
    static int[][] some(int count) {
        return java.util.Arrays.copyOf(EIGHT, count);
    }

    /** Numbers that are not from least to most: next to them, far off, and such as would fit, if cut to fewer bits. */
    static int[] off(int least, int most) {
        return new int[] {
            least - 1, most + 1, least - 2, most + 2, -most - 100, LEAST, MOST, LEAST + least + 1, MOST - most,
            least + 256, most - 256, least + 65536, most - 65536, least + (1 << 24), least ^ 1 << 30};
    }

    /** All that is told of a shape. */
    static void figure(RootShapes x, int which, int area, int rim, int inner, int... corners) {
        due("AREA of " + which, x.shape(which, 0), area);
        due("CORNERS of " + which, x.shape(which, 1), corners.length);
        due("RIM of " + which, x.shape(which, 2), rim);
        due("INNER of " + which, x.shape(which, 3), inner);
        for (int k = 0; k < corners.length; k++) {
            due("corner(" + which + ", " + k + ")", x.corner(which, k), corners[k]);
        }
        due("no corner more of " + which, x.corner(which, corners.length), -1);
    }

    /** All that is told of a cell: a, b, c, d, SIZE. */
    static void cellIs(RootShapes x, int k, int... members) {
        for (int what = 0; what < members.length; what++) {
            due("cell(" + k + ", " + what + ")", x.cell(k, what), members[what]);
        }
    }
}
