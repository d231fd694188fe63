/**
 * Two sparse equations in two letters: the shapes of their terms, the mixed area that bounds how
 * many answers there are, cells of a lift, fronts that tell whether answers are lost far out, and
 * answers counted where numbers go round a prime.
 */
public final class RootShapes {
    public static final int UNKNOWN = -1, OUTSIDE = -2, STATE = -3, FULL = -4, NO = -5, NONE = -6;

    private static final int MOST_TERMS = 8;
    private static final int MOST_POWER = 6;
    private static final int MOST_FACTOR = 20;
    private static final int MOST_LIFT = 100;
    private static final int MOST_AIM = 6;
    private static final int MOST_PRIME = 31;
    private static final int SUM = 2;

    // c of a term and TURN may themselves be small negative numbers, so refusals stand further off.
    private static final int FAR_FROM_FACTORS = -100;
    private static final int FAR_FROM_TURNS = -1000;

    private static final int[] ROUND_PRIMES = {2, 3, 5, 7, 11, 13, 17, 19, 23, 29, 31};

    private final Equation first = new Equation();
    private final Equation second = new Equation();
    private final Figure figure = new Figure();
    private final Subdivision subdivision = new Subdivision();
    private final Fronts fronts = new Fronts();
    private final Solutions solutions = new Solutions();

    public RootShapes() {
    }

    // ---- 1 terms, shapes

    public int term(int equation, int i, int j, int c) {
        Equation e = equationOf(equation);
        if (e == null) {
            return UNKNOWN;
        }
        if (!within(i, 0, MOST_POWER) || !within(j, 0, MOST_POWER) || !isFactor(c)) {
            return OUTSIDE;
        }
        if (e.size >= MOST_TERMS) {
            return FULL;
        }
        if (e.holds(i, j)) {
            return NO;
        }
        forgetFound();
        return e.add(i, j, c);
    }

    public int about(int equation, int term, int what) {
        Equation e = equationOf(equation);
        if (e == null || !e.has(term)) {
            return FAR_FROM_FACTORS + UNKNOWN;
        }
        switch (what) {
            case 0:
                return e.i[term];
            case 1:
                return e.j[term];
            case 2:
                return e.c[term];
            case 3:
                return e.height[term];
            default:
                return FAR_FROM_FACTORS + OUTSIDE;
        }
    }

    public int change(int equation, int term, int c) {
        Equation e = equationOf(equation);
        if (e == null || !e.has(term)) {
            return FAR_FROM_FACTORS + UNKNOWN;
        }
        if (!isFactor(c)) {
            return FAR_FROM_FACTORS + OUTSIDE;
        }
        int before = e.c[term];
        e.c[term] = c;
        forgetFound();
        return before;
    }

    public int clear(int equation) {
        Equation e = equationOf(equation);
        if (e == null) {
            return UNKNOWN;
        }
        int before = e.size;
        e.size = 0;
        forgetFound();
        return before;
    }

    public int shape(int which, int what) {
        if (!within(which, 0, SUM)) {
            return UNKNOWN;
        }
        if (!within(what, 0, 3)) {
            return OUTSIDE;
        }
        if (!drawFigure(which)) {
            return STATE;
        }
        switch (what) {
            case 0:
                return figure.area();
            case 1:
                return figure.corners;
            case 2:
                return figure.rim();
            default:
                return figure.inner();
        }
    }

    public int corner(int which, int k) {
        if (!within(which, 0, SUM)) {
            return UNKNOWN;
        }
        if (!drawFigure(which)) {
            return STATE;
        }
        if (!within(k, 0, figure.corners - 1)) {
            return UNKNOWN;
        }
        return 20 * figure.cornerI[k] + figure.cornerJ[k];
    }

    public int mixed() {
        if (anyEmpty()) {
            return STATE;
        }
        return (areaOf(SUM) - areaOf(0) - areaOf(1)) / 2;
    }

    // ---- 2 lifts

    public int lift(int equation, int term, int v) {
        Equation e = equationOf(equation);
        if (e == null || !e.has(term)) {
            return UNKNOWN;
        }
        if (!within(v, 0, MOST_LIFT)) {
            return OUTSIDE;
        }
        int before = e.height[term];
        e.height[term] = v;
        forgetFound();
        return before;
    }

    public int cells() {
        subdivision.find(first, second);
        return subdivision.count;
    }

    public int cell(int k, int what) {
        subdivision.find(first, second);
        if (!within(k, 0, subdivision.count - 1)) {
            return UNKNOWN;
        }
        if (!within(what, 0, 4)) {
            return OUTSIDE;
        }
        if (what == 4) {
            return subdivision.sizeOf(first, second, k);
        }
        return subdivision.memberOf(k, what);
    }

    public int fine() {
        subdivision.find(first, second);
        return subdivision.crowded ? 0 : 1;
    }

    // ---- 3 faces

    public int face(int equation, int p, int q) {
        Equation e = equationOf(equation);
        if (e == null) {
            return UNKNOWN;
        }
        if (!isAim(p, q)) {
            return OUTSIDE;
        }
        if (e.size == 0) {
            return STATE;
        }
        return fronts.bitsOf(e, p, q);
    }

    public int lose(int p, int q) {
        if (!isAim(p, q)) {
            return OUTSIDE;
        }
        if (anyEmpty()) {
            return STATE;
        }
        return fronts.shareRoot(first, second, p, q) ? 1 : 0;
    }

    public int keep() {
        if (anyEmpty()) {
            return STATE;
        }
        if (areaOf(SUM) == 0) {
            return NO;
        }
        return losesSomewhere() ? 0 : 1;
    }

    // ---- 4 answers

    public int two(int what) {
        if (!within(what, 0, 1)) {
            return FAR_FROM_TURNS + OUTSIDE;
        }
        if (first.size != 2 || second.size != 2) {
            return FAR_FROM_TURNS + STATE;
        }
        int turn = across(first, 0, 1, second, 0, 1);
        if (what == 0) {
            return turn;
        }
        return turn == 0 ? NONE : realAnswers();
    }

    public int round(int m) {
        if (!isRoundPrime(m)) {
            return OUTSIDE;
        }
        solutions.find(first, second, m);
        return solutions.count;
    }

    public int answer(int m, int k) {
        if (!isRoundPrime(m)) {
            return OUTSIDE;
        }
        solutions.find(first, second, m);
        if (!within(k, 0, solutions.count - 1)) {
            return NONE;
        }
        return solutions.found[k];
    }

    public int told(int equation) {
        Equation e = equationOf(equation);
        return e == null ? UNKNOWN : e.size;
    }

    // ---- what the calls share

    private Equation equationOf(int number) {
        if (number == 0) {
            return first;
        }
        return number == 1 ? second : null;
    }

    private boolean anyEmpty() {
        return first.size == 0 || second.size == 0;
    }

    private void forgetFound() {
        subdivision.known = false;
        solutions.modulus = 0;
    }

    private boolean drawFigure(int which) {
        if (which == SUM) {
            if (anyEmpty()) {
                return false;
            }
            figure.drawSum(first, second);
            return true;
        }
        Equation e = equationOf(which);
        if (e == null || e.size == 0) {
            return false;
        }
        figure.drawOne(e);
        return true;
    }

    private int areaOf(int which) {
        return drawFigure(which) ? figure.area() : 0;
    }

    // Sides of SUM are parallel to ways between terms, so every aim that matters is in this range.
    private boolean losesSomewhere() {
        for (int p = -MOST_AIM; p <= MOST_AIM; p++) {
            for (int q = -MOST_AIM; q <= MOST_AIM; q++) {
                if (commonPart(p, q) == 1 && fronts.shareRoot(first, second, p, q)) {
                    return true;
                }
            }
        }
        return false;
    }

    private int realAnswers() {
        int count = 0;
        for (int signs = 0; signs < 4; signs++) {
            boolean xMinus = (signs & 1) != 0;
            boolean yMinus = (signs & 2) != 0;
            if (first.signsDiffer(xMinus, yMinus) && second.signsDiffer(xMinus, yMinus)) {
                count++;
            }
        }
        return count;
    }

    private static boolean within(int number, int least, int most) {
        return number >= least && number <= most;
    }

    private static boolean isFactor(int c) {
        return c != 0 && within(c, -MOST_FACTOR, MOST_FACTOR);
    }

    private static boolean isAim(int p, int q) {
        return within(p, -MOST_AIM, MOST_AIM) && within(q, -MOST_AIM, MOST_AIM) && (p != 0 || q != 0);
    }

    private static boolean isRoundPrime(int m) {
        for (int prime : ROUND_PRIMES) {
            if (prime == m) {
                return true;
            }
        }
        return false;
    }

    /** The greatest common part of two numbers, 0 of twice 0; they are 12 in size at most. */
    private static int commonPart(int one, int other) {
        int a = Math.abs(one);
        int b = Math.abs(other);
        for (int n = 0; n < 64 && b != 0; n++) {
            int rest = a % b;
            a = b;
            b = rest;
        }
        return a;
    }

    /** The product across of the way from a to b in e and the way from c to d in f. */
    private static int across(Equation e, int a, int b, Equation f, int c, int d) {
        return (e.i[b] - e.i[a]) * (f.j[d] - f.j[c]) - (e.j[b] - e.j[a]) * (f.i[d] - f.i[c]);
    }

    /** The terms of an equation, in the order in which they were told. */
    private static final class Equation {
        final int[] i = new int[MOST_TERMS];
        final int[] j = new int[MOST_TERMS];
        final int[] c = new int[MOST_TERMS];
        final int[] height = new int[MOST_TERMS];
        int size = 0;

        boolean has(int term) {
            return within(term, 0, size - 1);
        }

        boolean holds(int pointI, int pointJ) {
            for (int t = 0; t < size; t++) {
                if (i[t] == pointI && j[t] == pointJ) {
                    return true;
                }
            }
            return false;
        }

        /** The number of the new term; the caller has seen that there is room. */
        int add(int pointI, int pointJ, int factor) {
            int t = size;
            if (t >= MOST_TERMS) {
                return FULL;
            }
            i[t] = pointI;
            j[t] = pointJ;
            c[t] = factor;
            height[t] = 0;
            size++;
            return t;
        }

        /** Whether the first two terms have unlike signs where x and y have the signs told. */
        boolean signsDiffer(boolean xMinus, boolean yMinus) {
            return isMinus(0, xMinus, yMinus) != isMinus(1, xMinus, yMinus);
        }

        private boolean isMinus(int t, boolean xMinus, boolean yMinus) {
            boolean minus = c[t] < 0;
            if (xMinus && i[t] % 2 != 0) {
                minus = !minus;
            }
            if (yMinus && j[t] % 2 != 0) {
                minus = !minus;
            }
            return minus;
        }
    }

    /** The least round figure with no dent about some points; its rows are used for every figure. */
    private static final class Figure {
        static final int MOST_POINTS = MOST_TERMS * MOST_TERMS;

        final int[] cornerI = new int[MOST_POINTS];
        final int[] cornerJ = new int[MOST_POINTS];
        int corners = 0;
        private final int[] pointI = new int[MOST_POINTS];
        private final int[] pointJ = new int[MOST_POINTS];
        private int points = 0;

        void drawOne(Equation e) {
            points = 0;
            for (int t = 0; t < e.size; t++) {
                put(e.i[t], e.j[t]);
            }
            wrap();
        }

        void drawSum(Equation e, Equation f) {
            points = 0;
            for (int t = 0; t < e.size; t++) {
                for (int s = 0; s < f.size; s++) {
                    put(e.i[t] + f.i[s], e.j[t] + f.j[s]);
                }
            }
            wrap();
        }

        /** Twice the area. */
        int area() {
            int sum = 0;
            for (int k = 0; k < corners; k++) {
                int n = after(k);
                sum += cornerI[k] * cornerJ[n] - cornerJ[k] * cornerI[n];
            }
            return sum;
        }

        int rim() {
            if (corners < 2) {
                return corners;
            }
            int steps = 0;
            for (int k = 0; k < corners; k++) {
                int n = after(k);
                steps += commonPart(cornerI[n] - cornerI[k], cornerJ[n] - cornerJ[k]);
            }
            // The way about a figure on a line goes there and back.
            return corners == 2 ? steps / 2 + 1 : steps;
        }

        int inner() {
            return corners < 3 ? 0 : (area() - rim() + 2) / 2;
        }

        private int after(int k) {
            return k + 1 < corners ? k + 1 : 0;
        }

        private void put(int i, int j) {
            if (points < MOST_POINTS) {
                pointI[points] = i;
                pointJ[points] = j;
                points++;
            }
        }

        private void wrap() {
            corners = 0;
            int start = firstPoint();
            int here = start;
            for (int n = 0; n < points; n++) {
                cornerI[corners] = pointI[here];
                cornerJ[corners] = pointJ[here];
                corners++;
                here = nextCorner(here);
                if (same(here, start)) {
                    return;
                }
            }
        }

        private int firstPoint() {
            int best = 0;
            for (int n = 1; n < points; n++) {
                boolean sameI = pointI[n] == pointI[best];
                if (pointI[n] < pointI[best] || sameI && pointJ[n] < pointJ[best]) {
                    best = n;
                }
            }
            return best;
        }

        /** The farthest of the points that have no point to the right of the way to them. */
        private int nextCorner(int here) {
            int best = here;
            for (int n = 0; n < points; n++) {
                if (same(n, here)) {
                    continue;
                }
                int side = sideOf(here, best, n);
                if (same(best, here) || side < 0 || side == 0 && far(here, n) > far(here, best)) {
                    best = n;
                }
            }
            return best;
        }

        private boolean same(int n, int k) {
            return pointI[n] == pointI[k] && pointJ[n] == pointJ[k];
        }

        /** Above 0, if k is to the left of the way to n; below, if to the right. */
        private int sideOf(int from, int n, int k) {
            return (pointI[n] - pointI[from]) * (pointJ[k] - pointJ[from])
                - (pointJ[n] - pointJ[from]) * (pointI[k] - pointI[from]);
        }

        private int far(int from, int n) {
            return Math.abs(pointI[n] - pointI[from]) + Math.abs(pointJ[n] - pointJ[from]);
        }
    }

    /** The cells of the lift, kept until a term or a lift is another one. */
    private static final class Subdivision {
        static final int MOST_PAIRS = MOST_TERMS * (MOST_TERMS - 1) / 2;

        int count = 0;
        boolean crowded = false;
        boolean known = false;
        private final int[] found = new int[MOST_PAIRS * MOST_PAIRS];
        // u and v times scale, which is above 0: so all stays whole.
        private int scale = 1;
        private int scaledU = 0;
        private int scaledV = 0;

        void find(Equation e, Equation f) {
            if (known) {
                return;
            }
            known = true;
            count = 0;
            crowded = false;
            for (int a = 0; a < e.size; a++) {
                for (int b = a + 1; b < e.size; b++) {
                    findWith(e, f, a, b);
                }
            }
        }

        int memberOf(int k, int place) {
            return found[k] >> 3 * (3 - place) & 7;
        }

        int sizeOf(Equation e, Equation f, int k) {
            return Math.abs(across(e, memberOf(k, 0), memberOf(k, 1), f, memberOf(k, 2), memberOf(k, 3)));
        }

        private void findWith(Equation e, Equation f, int a, int b) {
            for (int c = 0; c < f.size; c++) {
                for (int d = c + 1; d < f.size; d++) {
                    if (tilt(e, f, a, b, c, d)) {
                        noteIfLowest(alikeLowest(e, a), alikeLowest(f, c), a << 9 | b << 6 | c << 3 | d);
                    }
                }
            }
        }

        private void noteIfLowest(int alikeFirst, int alikeSecond, int members) {
            if (alikeFirst == 0 || alikeSecond == 0 || count >= found.length) {
                return;
            }
            found[count] = members;
            count++;
            if (alikeFirst > 2 || alikeSecond > 2) {
                crowded = true;
            }
        }

        /** Sets u and v so that a is alike b and c alike d; no, if the ways are parallel. */
        private boolean tilt(Equation e, Equation f, int a, int b, int c, int d) {
            int turn = across(e, a, b, f, c, d);
            if (turn == 0) {
                return false;
            }
            int sign = turn < 0 ? -1 : 1;
            int fallE = e.height[a] - e.height[b];
            int fallF = f.height[c] - f.height[d];
            scale = sign * turn;
            scaledU = sign * (fallE * (f.j[d] - f.j[c]) - fallF * (e.j[b] - e.j[a]));
            scaledV = sign * (fallF * (e.i[b] - e.i[a]) - fallE * (f.i[d] - f.i[c]));
            return true;
        }

        /** How many terms have as much as this one, it too; 0, if one has less. */
        private int alikeLowest(Equation e, int term) {
            int due = levelOf(e, term);
            int alike = 0;
            for (int t = 0; t < e.size; t++) {
                int level = levelOf(e, t);
                if (level < due) {
                    return 0;
                }
                if (level == due) {
                    alike++;
                }
            }
            return alike;
        }

        private int levelOf(Equation e, int t) {
            return scale * e.height[t] + scaledU * e.i[t] + scaledV * e.j[t];
        }
    }

    /** Fronts, and whether two of them as polynomials along a line have a root together. */
    private static final class Fronts {
        // Degrees are 6 at most and numbers 20 in size, so a resultant is under 10^21 in size
        // (Hadamard's bound): it is 0 just if it is 0 by all three primes, whose product is above.
        private static final long[] PRIMES = {1000000007L, 1000000009L, 998244353L};
        private static final int MOST_STEPS = MOST_POWER + 1;

        private final long[] one = new long[MOST_STEPS];
        private final long[] other = new long[MOST_STEPS];

        int bitsOf(Equation e, int p, int q) {
            int bits = 0;
            int least = Integer.MAX_VALUE;
            for (int t = 0; t < e.size; t++) {
                int value = p * e.i[t] + q * e.j[t];
                if (value < least) {
                    least = value;
                    bits = 0;
                }
                if (value == least) {
                    bits |= 1 << t;
                }
            }
            return bits;
        }

        boolean shareRoot(Equation e, Equation f, int p, int q) {
            int bitsE = bitsOf(e, p, q);
            int bitsF = bitsOf(f, p, q);
            int part = commonPart(p, q);
            if (part == 0 || Integer.bitCount(bitsE) < 2 || Integer.bitCount(bitsF) < 2) {
                return false;
            }
            for (long prime : PRIMES) {
                layAlong(e, bitsE, -q / part, p / part, one);
                layAlong(f, bitsF, -q / part, p / part, other);
                if (!shareRootBy(prime)) {
                    return false;
                }
            }
            return true;
        }

        /** Lays the terms of a front into a row, by their steps along the way from its end. */
        private void layAlong(Equation e, int bits, int wayI, int wayJ, long[] row) {
            int end = Integer.MAX_VALUE;
            for (int t = 0; t < e.size; t++) {
                if ((bits >> t & 1) != 0) {
                    end = Math.min(end, wayI * e.i[t] + wayJ * e.j[t]);
                }
            }
            for (int n = 0; n < row.length; n++) {
                row[n] = 0;
            }
            int stride = wayI * wayI + wayJ * wayJ;
            if (stride == 0) {
                return;
            }
            for (int t = 0; t < e.size; t++) {
                int steps = (wayI * e.i[t] + wayJ * e.j[t] - end) / stride;
                if ((bits >> t & 1) != 0 && within(steps, 0, row.length - 1)) {
                    row[steps] = e.c[t];
                }
            }
        }

        /** Euclid's way with no division; both ends of either row are no multiple of the prime. */
        private boolean shareRootBy(long prime) {
            int degreeOne = degreeOf(one);
            int degreeOther = degreeOf(other);
            for (int n = 0; n < 4 * MOST_STEPS && degreeOne >= 0 && degreeOther >= 0; n++) {
                if (degreeOne >= degreeOther) {
                    lower(one, degreeOne, other, degreeOther, prime);
                    degreeOne = degreeOf(one);
                } else {
                    lower(other, degreeOther, one, degreeOne, prime);
                    degreeOther = degreeOf(other);
                }
            }
            return Math.max(degreeOne, degreeOther) > 0;
        }

        private int degreeOf(long[] row) {
            int degree = row.length - 1;
            while (degree >= 0 && row[degree] == 0) {
                degree--;
            }
            return degree;
        }

        /** Takes from the row of higher degree what makes its leading number 0. */
        private void lower(long[] high, int highDegree, long[] low, int lowDegree, long prime) {
            long highLead = high[highDegree];
            long lowLead = low[lowDegree];
            int shift = highDegree - lowDegree;
            for (int n = 0; n <= highDegree; n++) {
                long taken = n >= shift ? highLead * low[n - shift] : 0;
                high[n] = (lowLead * high[n] - taken) % prime;
            }
        }
    }

    /** The answers where numbers go round a prime, kept until a term is another one. */
    private static final class Solutions {
        static final int POWERS = MOST_POWER + 1;

        final int[] found = new int[(MOST_PRIME - 1) * (MOST_PRIME - 1)];
        int count = 0;
        int modulus = 0;
        private final int[] powers = new int[MOST_PRIME * POWERS];

        /** The caller has seen that m is a prime of 2 to 31. */
        void find(Equation e, Equation f, int m) {
            if (m == modulus || !within(m, 2, MOST_PRIME)) {
                return;
            }
            modulus = m;
            count = 0;
            fillPowers(m);
            for (int x = 1; x < m; x++) {
                for (int y = 1; y < m; y++) {
                    if (count < found.length && isNought(e, x, y, m) && isNought(f, x, y, m)) {
                        found[count] = 100 * x + y;
                        count++;
                    }
                }
            }
        }

        private void fillPowers(int m) {
            for (int x = 1; x < m; x++) {
                int power = 1;
                for (int n = 0; n < POWERS; n++) {
                    powers[x * POWERS + n] = power;
                    power = power * x % m;
                }
            }
        }

        private boolean isNought(Equation e, int x, int y, int m) {
            int sum = 0;
            for (int t = 0; t < e.size; t++) {
                sum += e.c[t] * powers[x * POWERS + e.i[t]] * powers[y * POWERS + e.j[t]];
            }
            return sum % m == 0;
        }
    }
}
