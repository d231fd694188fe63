import java.math.BigInteger;
import java.util.ArrayList;
import java.util.Arrays;
import java.util.Comparator;
import java.util.List;
import java.util.Random;

/**
 * Long runs of calls with a fixed seed, held against a slow model that works by other ways than the
 * class: figures by half planes and counted points, cells by fractions, roots by Sylvester's
 * determinant, answers by big numbers.
 */
public final class ModelRuns {
    private static final int RUNS = 400;
    private static final int CALLS = 400;

    private static int wrong = 0;

    private ModelRuns() {
    }

    public static void main(String[] args) {
        for (int run = 0; run < RUNS; run++) {
            new Run(run).play();
        }
        System.out.println(wrong == 0 ? "all answers are the model's" : wrong + " answers are not the model's");
        if (wrong != 0) {
            System.exit(1);
        }
    }

    private static final class Run {
        private final int number;
        private final Random dice;
        private final int power;
        private final int factor;
        private final int height;
        private final RootShapes made = new RootShapes();
        private final Model model = new Model();

        Run(int number) {
            this.number = number;
            this.dice = new Random(7000L + number);
            this.power = 1 + dice.nextInt(6);
            this.factor = new int[] {1, 2, 3, 20}[dice.nextInt(4)];
            this.height = new int[] {0, 1, 3, 100}[dice.nextInt(4)];
        }

        void play() {
            for (int n = 0; n < CALLS; n++) {
                step();
            }
        }

        private void step() {
            // Across the line that the terms of these runs are near, fronts are long.
            if (number % 4 == 0 && dice.nextInt(5) == 0) {
                int q = dice.nextInt(13) - 6;
                due("lose", made.lose(0, q), model.lose(0, q), 0, q);
            }
            if (number % 4 == 1 && dice.nextInt(5) == 0) {
                int w = dice.nextInt(2);
                due("two", made.two(w), model.two(w), w);
            }
            switch (dice.nextInt(25)) {
                case 0, 1, 2, 3 -> term();
                case 4 -> {
                    int e = equation();
                    int t = small(8);
                    int w = small(4);
                    due("about", made.about(e, t, w), model.about(e, t, w), e, t, w);
                }
                case 5, 6 -> {
                    int e = equation();
                    int t = small(8);
                    int c = factor();
                    due("change", made.change(e, t, c), model.change(e, t, c), e, t, c);
                }
                case 7 -> {
                    if (dice.nextInt(4) == 0) {
                        int e = equation();
                        due("clear", made.clear(e), model.clear(e), e);
                    }
                }
                case 8, 9 -> {
                    int s = small(3);
                    int w = small(4);
                    due("shape", made.shape(s, w), model.shape(s, w), s, w);
                }
                case 10, 11 -> {
                    int s = small(3);
                    int k = small(8);
                    due("corner", made.corner(s, k), model.corner(s, k), s, k);
                }
                case 12 -> due("mixed", made.mixed(), model.mixed());
                case 13, 14 -> {
                    int e = equation();
                    int t = small(8);
                    int v = odd() ? any() : dice.nextInt(height + 1);
                    due("lift", made.lift(e, t, v), model.lift(e, t, v), e, t, v);
                }
                case 15 -> due("cells", made.cells(), model.cells().size());
                case 16 -> {
                    int k = small(30);
                    int w = small(5);
                    due("cell", made.cell(k, w), model.cell(k, w), k, w);
                }
                case 17 -> due("fine", made.fine(), model.fine());
                case 18 -> {
                    int e = equation();
                    int p = aim();
                    int q = aim();
                    due("face", made.face(e, p, q), model.face(e, p, q), e, p, q);
                }
                case 19 -> {
                    int p = aim();
                    int q = aim();
                    due("lose", made.lose(p, q), model.lose(p, q), p, q);
                }
                case 20 -> due("keep", made.keep(), model.keep());
                case 21 -> {
                    int w = small(2);
                    due("two", made.two(w), model.two(w), w);
                }
                case 22 -> {
                    int m = small(33);
                    due("round", made.round(m), model.round(m), m);
                }
                case 23 -> {
                    int m = new int[] {2, 3, 5, 7, 31}[dice.nextInt(5)];
                    int k = small(10);
                    due("answer", made.answer(m, k), model.answer(m, k), m, k);
                }
                default -> {
                    int e = equation();
                    due("told", made.told(e), model.told(e), e);
                }
            }
        }

        /** Runs differ: terms near a line, so that fronts are long; few terms, for TWO and TWO; any. */
        private void term() {
            int e = equation();
            if (number % 4 == 1 && e >= 0 && e < 2 && model.told(e) == 2 && dice.nextInt(8) != 0) {
                due("clear", made.clear(e), model.clear(e), e);
                return;
            }
            int i = odd() ? any() : dice.nextInt(power + 1);
            int j = odd() ? any() : number % 4 == 0 ? dice.nextInt(2) : dice.nextInt(power + 1);
            int c = factor();
            due("term", made.term(e, i, j, c), model.term(e, i, j, c), e, i, j, c);
        }

        private boolean odd() {
            return dice.nextInt(20) == 0;
        }

        private int any() {
            return new int[] {Integer.MIN_VALUE, Integer.MAX_VALUE, -1, 7, 8, 21, -21, -7, 101, 0}[dice.nextInt(10)];
        }

        private int equation() {
            return odd() ? any() : dice.nextInt(2);
        }

        private int small(int bound) {
            return odd() ? any() : dice.nextInt(bound);
        }

        private int factor() {
            return odd() ? any() : dice.nextInt(2 * factor + 1) - factor;
        }

        private int aim() {
            return odd() ? any() : dice.nextInt(3) == 0 ? dice.nextInt(13) - 6 : dice.nextInt(3) - 1;
        }

        private void due(String call, int got, int want, int... with) {
            if (got != want) {
                wrong++;
                if (wrong <= 40) {
                    System.out.println("run " + number + ": " + call + Arrays.toString(with)
                        + " answered " + got + ", the model's is " + want);
                }
            }
        }
    }

    private static final class Term {
        final int i;
        final int j;
        int c;
        int lift = 0;

        Term(int i, int j, int c) {
            this.i = i;
            this.j = j;
            this.c = c;
        }
    }

    private record Point(int i, int j) {
    }

    private static final class Model {
        private final List<List<Term>> equations = List.of(new ArrayList<>(), new ArrayList<>());

        private boolean known(int e) {
            return e == 0 || e == 1;
        }

        private boolean known(int e, int t) {
            return known(e) && t >= 0 && t < equations.get(e).size();
        }

        int term(int e, int i, int j, int c) {
            if (!known(e)) {
                return -1;
            }
            if (i < 0 || i > 6 || j < 0 || j > 6 || c < -20 || c > 20 || c == 0) {
                return -2;
            }
            List<Term> terms = equations.get(e);
            if (terms.size() == 8) {
                return -4;
            }
            if (terms.stream().anyMatch(t -> t.i == i && t.j == j)) {
                return -5;
            }
            terms.add(new Term(i, j, c));
            return terms.size() - 1;
        }

        int about(int e, int t, int what) {
            if (!known(e, t)) {
                return -101;
            }
            if (what < 0 || what > 3) {
                return -102;
            }
            Term term = equations.get(e).get(t);
            return new int[] {term.i, term.j, term.c, term.lift}[what];
        }

        int change(int e, int t, int c) {
            if (!known(e, t)) {
                return -101;
            }
            if (c < -20 || c > 20 || c == 0) {
                return -102;
            }
            int before = equations.get(e).get(t).c;
            equations.get(e).get(t).c = c;
            return before;
        }

        int clear(int e) {
            if (!known(e)) {
                return -1;
            }
            int before = equations.get(e).size();
            equations.get(e).clear();
            return before;
        }

        int told(int e) {
            return known(e) ? equations.get(e).size() : -1;
        }

        private boolean empty(int which) {
            return which == 2 ? empty(0) || empty(1) : equations.get(which).isEmpty();
        }

        private List<Point> points(int which) {
            List<Point> points = new ArrayList<>();
            if (which < 2) {
                equations.get(which).forEach(t -> points.add(new Point(t.i, t.j)));
                return points;
            }
            for (Point a : points(0)) {
                for (Point b : points(1)) {
                    Point sum = new Point(a.i + b.i, a.j + b.j);
                    if (!points.contains(sum)) {
                        points.add(sum);
                    }
                }
            }
            return points;
        }

        int shape(int which, int what) {
            if (which < 0 || which > 2) {
                return -1;
            }
            if (what < 0 || what > 3) {
                return -2;
            }
            if (empty(which)) {
                return -3;
            }
            List<Point> points = points(which);
            if (what == 0) {
                return area(points);
            }
            return what == 1 ? corners(points).size() : counted(points)[what - 2];
        }

        int corner(int which, int k) {
            if (which < 0 || which > 2) {
                return -1;
            }
            if (empty(which)) {
                return -3;
            }
            List<Point> corners = corners(points(which));
            return k < 0 || k >= corners.size() ? -1 : 20 * corners.get(k).i + corners.get(k).j;
        }

        int mixed() {
            return empty(2) ? -3 : (area(points(2)) - area(points(0)) - area(points(1))) / 2;
        }

        int lift(int e, int t, int v) {
            if (!known(e, t)) {
                return -1;
            }
            if (v < 0 || v > 100) {
                return -2;
            }
            int before = equations.get(e).get(t).lift;
            equations.get(e).get(t).lift = v;
            return before;
        }

        /** Rows of a, b, c, d, SIZE, and whether another term has as much. */
        List<int[]> cells() {
            List<int[]> cells = new ArrayList<>();
            List<Term> e = equations.get(0);
            List<Term> f = equations.get(1);
            for (int abcd = 0; abcd < 4096; abcd++) {
                int a = abcd / 512;
                int b = abcd / 64 % 8;
                int c = abcd / 8 % 8;
                int d = abcd % 8;
                if (a < b && b < e.size() && c < d && d < f.size()) {
                    int[] cell = cell(e, f, a, b, c, d);
                    if (cell != null) {
                        cells.add(cell);
                    }
                }
            }
            return cells;
        }

        private int[] cell(List<Term> e, List<Term> f, int a, int b, int c, int d) {
            Fraction[] uv = solve(e.get(a), e.get(b), f.get(c), f.get(d));
            if (uv == null) {
                return null;
            }
            int crowd = 0;
            for (int n = 0; n < 2; n++) {
                List<Term> terms = n == 0 ? e : f;
                Fraction due = level(terms.get(n == 0 ? a : c), uv);
                for (Term t : terms) {
                    int sign = level(t, uv).minus(due).sign();
                    if (sign < 0) {
                        return null;
                    }
                    crowd += sign == 0 ? 1 : 0;
                }
            }
            int size = Math.abs((e.get(b).i - e.get(a).i) * (f.get(d).j - f.get(c).j)
                - (e.get(b).j - e.get(a).j) * (f.get(d).i - f.get(c).i));
            return new int[] {a, b, c, d, size, crowd > 4 ? 1 : 0};
        }

        int cell(int k, int what) {
            List<int[]> cells = cells();
            if (k < 0 || k >= cells.size()) {
                return -1;
            }
            return what < 0 || what > 4 ? -2 : cells.get(k)[what];
        }

        int fine() {
            List<int[]> cells = cells();
            boolean fine = cells.stream().noneMatch(c -> c[5] == 1);
            if (fine && !empty(2) && cells.stream().mapToInt(c -> c[4]).sum() != mixed()) {
                throw new IllegalStateException("the model's sizes together are not its mixed area");
            }
            return fine ? 1 : 0;
        }

        private boolean aim(int p, int q) {
            return p >= -6 && p <= 6 && q >= -6 && q <= 6 && (p != 0 || q != 0);
        }

        private List<Term> front(int e, int p, int q) {
            int least = equations.get(e).stream().mapToInt(t -> p * t.i + q * t.j).min().orElseThrow();
            return equations.get(e).stream().filter(t -> p * t.i + q * t.j == least).toList();
        }

        int face(int e, int p, int q) {
            if (!known(e)) {
                return -1;
            }
            if (!aim(p, q)) {
                return -2;
            }
            if (empty(e)) {
                return -3;
            }
            return front(e, p, q).stream().mapToInt(t -> 1 << equations.get(e).indexOf(t)).sum();
        }

        int lose(int p, int q) {
            if (!aim(p, q)) {
                return -2;
            }
            if (empty(2)) {
                return -3;
            }
            List<Term> e = front(0, p, q);
            List<Term> f = front(1, p, q);
            if (e.size() < 2 || f.size() < 2) {
                return 0;
            }
            return resultant(along(e), along(f)).signum() == 0 ? 1 : 0;
        }

        int keep() {
            if (empty(2)) {
                return -3;
            }
            if (area(points(2)) == 0) {
                return -5;
            }
            List<Point> corners = corners(points(2));
            for (int k = 0; k < corners.size(); k++) {
                Point from = corners.get(k);
                Point to = corners.get((k + 1) % corners.size());
                int part = BigInteger.valueOf(to.i - from.i).gcd(BigInteger.valueOf(to.j - from.j)).intValue();
                if (lose(-(to.j - from.j) / part, (to.i - from.i) / part) == 1) {
                    return 0;
                }
            }
            return 1;
        }

        int two(int what) {
            if (what < 0 || what > 1) {
                return -1002;
            }
            if (equations.get(0).size() != 2 || equations.get(1).size() != 2) {
                return -1003;
            }
            Term a = equations.get(0).get(0);
            Term b = equations.get(0).get(1);
            Term c = equations.get(1).get(0);
            Term d = equations.get(1).get(1);
            int turn = (b.i - a.i) * (d.j - c.j) - (b.j - a.j) * (d.i - c.i);
            if (what == 0) {
                return turn;
            }
            int real = 0;
            for (int x = -1; x <= 1; x += 2) {
                for (int y = -1; y <= 1; y += 2) {
                    if (value(a, x, y).signum() != value(b, x, y).signum()
                        && value(c, x, y).signum() != value(d, x, y).signum()) {
                        real++;
                    }
                }
            }
            return turn == 0 ? -6 : real;
        }

        int round(int m) {
            return prime(m) ? answers(m).size() : -2;
        }

        int answer(int m, int k) {
            if (!prime(m)) {
                return -2;
            }
            List<Integer> answers = answers(m);
            return k < 0 || k >= answers.size() ? -6 : answers.get(k);
        }

        private List<Integer> answers(int m) {
            List<Integer> answers = new ArrayList<>();
            for (int x = 1; x < m; x++) {
                for (int y = 1; y < m; y++) {
                    if (nought(0, x, y, m) && nought(1, x, y, m)) {
                        answers.add(100 * x + y);
                    }
                }
            }
            return answers;
        }

        private boolean nought(int e, int x, int y, int m) {
            BigInteger sum = BigInteger.ZERO;
            for (Term t : equations.get(e)) {
                sum = sum.add(value(t, x, y));
            }
            return sum.mod(BigInteger.valueOf(m)).signum() == 0;
        }
    }

    private static BigInteger value(Term t, int x, int y) {
        BigInteger powers = BigInteger.valueOf(x).pow(t.i).multiply(BigInteger.valueOf(y).pow(t.j));
        return powers.multiply(BigInteger.valueOf(t.c));
    }

    private static boolean prime(int m) {
        return m >= 2 && m <= 31 && BigInteger.valueOf(m).isProbablePrime(50);
    }

    private static int dot(Point a, int p, int q) {
        return p * a.i + q * a.j;
    }

    /** A point is a corner, if it is the only one with the least in some direction. */
    private static List<Point> corners(List<Point> points) {
        List<Point> corners = new ArrayList<>();
        for (int p = -24; p <= 24; p++) {
            for (int q = -24; q <= 24; q++) {
                Point only = onlyLeast(points, p, q);
                if (only != null && !corners.contains(only)) {
                    corners.add(only);
                }
            }
        }
        corners.sort(Comparator.comparingInt(Point::i).thenComparingInt(Point::j));
        Point start = corners.remove(0);
        corners.sort((a, b) -> (b.i - start.i) * (a.j - start.j) - (a.i - start.i) * (b.j - start.j));
        corners.add(0, start);
        return corners;
    }

    private static Point onlyLeast(List<Point> points, int p, int q) {
        int least = Integer.MAX_VALUE;
        Point only = null;
        for (Point b : points) {
            int value = dot(b, p, q);
            if (value <= least) {
                only = value < least ? b : null;
                least = value;
            }
        }
        return only;
    }

    /** Points on the border and within, one by one. */
    private static int[] counted(List<Point> points) {
        int[] margins = new int[13 * 13];
        Arrays.fill(margins, Integer.MAX_VALUE);
        for (int p = -12; p <= 12; p++) {
            for (int q = -12; q <= 12; q++) {
                if (p != 0 || q != 0) {
                    narrow(margins, points, p, q);
                }
            }
        }
        int rim = 0;
        int inner = 0;
        for (int margin : margins) {
            rim += margin == 0 ? 1 : 0;
            inner += margin > 0 ? 1 : 0;
        }
        return new int[] {rim, inner};
    }

    private static void narrow(int[] margins, List<Point> points, int p, int q) {
        int least = Integer.MAX_VALUE;
        for (Point b : points) {
            least = Math.min(least, dot(b, p, q));
        }
        for (int n = 0; n < margins.length; n++) {
            margins[n] = Math.min(margins[n], p * (n / 13) + q * (n % 13) - least);
        }
    }

    /** Pick's rule; of a figure on a line nothing is within and the rim says no area. */
    private static int area(List<Point> points) {
        Point a = points.get(0);
        boolean line = true;
        for (Point b : points) {
            for (Point c : points) {
                line &= (b.i - a.i) * (c.j - a.j) == (b.j - a.j) * (c.i - a.i);
            }
        }
        int[] counted = counted(points);
        return line ? 0 : 2 * counted[1] + counted[0] - 2;
    }

    private record Fraction(long over, long under) {
        Fraction minus(Fraction o) {
            return new Fraction(over * o.under - o.over * under, under * o.under);
        }

        int sign() {
            return Long.signum(over) * Long.signum(under);
        }
    }

    private static Fraction[] solve(Term a, Term b, Term c, Term d) {
        long[] one = {b.i - a.i, b.j - a.j, a.lift - b.lift};
        long[] other = {d.i - c.i, d.j - c.j, c.lift - d.lift};
        if (one[0] == 0) {
            long[] swap = one;
            one = other;
            other = swap;
        }
        if (one[0] == 0) {
            return null;
        }
        long under = other[1] * one[0] - one[1] * other[0];
        if (under == 0) {
            return null;
        }
        Fraction v = new Fraction(other[2] * one[0] - one[2] * other[0], under);
        Fraction u = new Fraction(one[2] * v.under - one[1] * v.over, one[0] * v.under);
        return new Fraction[] {u, v};
    }

    private static Fraction level(Term t, Fraction[] uv) {
        long under = uv[0].under * uv[1].under;
        return new Fraction(t.lift * under + t.i * uv[0].over * uv[1].under + t.j * uv[1].over * uv[0].under, under);
    }

    /** The terms of a front on a line from its end with the least i (then the least j) on. */
    private static int[] along(List<Term> front) {
        List<Term> sorted = new ArrayList<>(front);
        sorted.sort(Comparator.<Term>comparingInt(t -> t.i).thenComparingInt(t -> t.j));
        Term end = sorted.get(0);
        Term last = sorted.get(sorted.size() - 1);
        int steps = BigInteger.valueOf(last.i - end.i).gcd(BigInteger.valueOf(last.j - end.j)).intValue();
        int[] row = new int[steps + 1];
        for (Term t : sorted) {
            row[BigInteger.valueOf(t.i - end.i).gcd(BigInteger.valueOf(t.j - end.j)).intValue()] = t.c;
        }
        return row;
    }

    /** Sylvester's determinant, by Bareiss. */
    private static BigInteger resultant(int[] one, int[] other) {
        int m = one.length - 1;
        int n = other.length - 1;
        BigInteger[][] a = new BigInteger[m + n][m + n];
        for (int r = 0; r < m + n; r++) {
            for (int k = 0; k < m + n; k++) {
                int[] row = r < n ? one : other;
                int at = r < n ? k - r : k - (r - n);
                a[r][k] = BigInteger.valueOf(at >= 0 && at < row.length ? row[at] : 0);
            }
        }
        BigInteger before = BigInteger.ONE;
        for (int k = 0; k < m + n - 1; k++) {
            int pivot = k;
            while (pivot < m + n && a[pivot][k].signum() == 0) {
                pivot++;
            }
            if (pivot == m + n) {
                return BigInteger.ZERO;
            }
            BigInteger[] swap = a[k];
            a[k] = a[pivot];
            a[pivot] = swap;
            for (int r = k + 1; r < m + n; r++) {
                for (int s = k + 1; s < m + n; s++) {
                    a[r][s] = a[r][s].multiply(a[k][k]).subtract(a[r][k].multiply(a[k][s])).divide(before);
                }
            }
            before = a[k][k];
        }
        return a[m + n - 1][m + n - 1];
    }
}
