import java.math.BigInteger;

/** The boundary cases that the document names of answers: part 4, promises 16 to 18. */
public final class AnswersEdges extends Dues {
    private AnswersEdges() {
    }

    public static void main(String[] args) {
        justTwoTerms();
        twoOutside();
        turnWithItsSign();
        turnsLikeRefusals();
        turnsFromLeastToMost();
        turnNought();
        realNone();
        realOfEverySign();
        realWhereverTheyAre();
        turnIsHowMany();
        primesAlone();
        primesFarOff();
        noLetterNought();
        roundTwo();
        noTermsAreNought();
        bothEquations();
        multiplesOfAnyKind();
        greatestNumbers();
        powersGoRound();
        roundIsOfTheTermsNow();
        answersByXThenY();
        noSuchAnswer();
        answerOutside();
        firstAndLastAnswers();
        answersOfSeveralPrimes();
        end();
    }

    private static void justTwoTerms() {
        says(16, "both EQUATIONS have just two TERMS .. STATE (-1003): they are not so");
        for (int one = 0; one <= 8; one++) {
            for (int other = 0; other <= 8; other++) {
                int[][] second = {{0, 0, 1}, {0, 1, 1}, {0, 2, 1}, {0, 3, 1}, {0, 4, 1}, {0, 5, 1}, {0, 6, 1}, {6, 5, 1}};
                RootShapes x = made(some(one), java.util.Arrays.copyOf(second, other));
                boolean so = one == 2 && other == 2;
                due("two(0) of " + one + " and " + other, x.two(0), so ? 6 : -1003);
                due("two(1) of " + one + " and " + other, x.two(1), so ? 2 : -1003);
            }
        }
        RootShapes x = made(some(2), rows(t(0, 0, 1), t(0, 1, 1)));
        due("just two", x.two(0), 6);
        due("a third", x.term(1, 0, 2, 1), 2);
        due("not so", x.two(0), -1003);
        due("a term refused", x.term(0, 0, 0, 1), -5);
        due("clear(1)", x.clear(1), 3);
        due("not so", x.two(1), -1003);
        tell(x, 1, t(0, 0, 1), t(0, 1, 1));
        due("just two again", x.two(0), 6);
    }

    private static void twoOutside() {
        says(16, "OUTSIDE (-1002)");
        RootShapes x = made(some(2), rows(t(0, 0, 1), t(0, 1, 1)));
        for (int n : off(0, 1)) {
            due("two(" + n + ")", x.two(n), -1002);
            due("OUTSIDE ahead of STATE", new RootShapes().two(n), -1002);
            due("OUTSIDE ahead of STATE", made(EIGHT, some(2)).two(n), -1002);
        }
    }

    private static void turnWithItsSign() {
        says(16, "TURN (with its sign): ways from the first to the second TERM");
        int[] a = t(1, 1, 1);
        int[] b = t(3, 2, 1);
        int[] c = t(4, 4, 1);
        int[] d = t(3, 6, 1);
        due("there, there", made(rows(a, b), rows(c, d)).two(0), 5);
        due("back, there", made(rows(b, a), rows(c, d)).two(0), -5);
        due("there, back", made(rows(a, b), rows(d, c)).two(0), -5);
        due("back, back", made(rows(b, a), rows(d, c)).two(0), 5);
        due("the other first", made(rows(c, d), rows(a, b)).two(0), -5);
    }

    private static void turnsLikeRefusals() {
        says(16, "a TURN like a refusal is told as it is");
        for (int n = 1; n <= 6; n++) {
            RootShapes x = made(rows(t(0, 0, 1), t(n, 0, -1)), rows(t(0, 1, 1), t(0, 0, -1)));
            due("TURN -" + n, x.two(0), -n);
            due("REAL ones", x.two(1), n % 2 == 0 ? 2 : 1);
        }
    }

    private static void turnsFromLeastToMost() {
        says(16, "TURN from the least to the most");
        due("72", made(rows(t(0, 0, 1), t(6, 6, 1)), rows(t(6, 0, 1), t(0, 6, 1))).two(0), 72);
        due("-72", made(rows(t(0, 0, 1), t(6, 6, 1)), rows(t(0, 6, 1), t(6, 0, 1))).two(0), -72);
        due("1", made(rows(t(0, 0, 1), t(5, 6, 1)), rows(t(0, 0, 1), t(4, 5, 1))).two(0), 1);
        due("-1", made(rows(t(0, 0, 1), t(4, 5, 1)), rows(t(0, 0, 1), t(5, 6, 1))).two(0), -1);
    }

    private static void turnNought() {
        says(16, "REAL ones (1; NONE, if TURN is 0)");
        int[][] way = {{0, 0, 1}, {2, 4, -1}};
        int[][][] others = {
            {{0, 0, 1}, {2, 4, -1}}, {{2, 4, 1}, {0, 0, -1}}, {{3, 2, 1}, {4, 4, -1}}, {{6, 6, -1}, {3, 0, -1}}};
        for (int[][] other : others) {
            RootShapes x = made(way, other);
            due("TURN", x.two(0), 0);
            due("REAL ones", x.two(1), -6);
        }
        due("upright", made(rows(t(3, 0, 1), t(3, 6, 1)), rows(t(0, 2, 1), t(0, 1, 1))).two(1), -6);
        due("level", made(rows(t(0, 3, 1), t(6, 3, 1)), rows(t(2, 0, 1), t(1, 0, 1))).two(1), -6);
    }

    private static void realNone() {
        says(16, "no REAL ones: 0, not NONE");
        due("x^2 = -1, y = 1", made(rows(t(2, 0, 1), t(0, 0, 1)), rows(t(0, 1, 1), t(0, 0, -1))).two(1), 0);
        due("x = 1, y^2 = -1", made(rows(t(1, 0, 1), t(0, 0, -1)), rows(t(0, 2, -3), t(0, 0, -2))).two(1), 0);
        due("x y = 1, x^3 y = -1", made(rows(t(1, 1, 1), t(0, 0, -1)), rows(t(3, 1, 1), t(0, 0, 1))).two(1), 0);
    }

    /** Signs by the letters 1 and -1 put in: unlike just if the product of both terms is below 0. */
    private static int realOnes(int[][] first, int[][] second) {
        int count = 0;
        for (int x = -1; x <= 1; x += 2) {
            for (int y = -1; y <= 1; y += 2) {
                double one = value(first[0], x, y) * value(first[1], x, y);
                double other = value(second[0], x, y) * value(second[1], x, y);
                count += one < 0 && other < 0 ? 1 : 0;
            }
        }
        return count;
    }

    private static double value(int[] term, int x, int y) {
        return term[2] * Math.pow(x, term[0]) * Math.pow(y, term[1]);
    }

    private static void realOfEverySign() {
        says(16, "four pairs, with which in both EQUATIONS both TERMS have unlike signs (c taken too)");
        int[] ways = {1, 0, 0, 1, 2, 1, 1, 2, 1, 1, 3, 1, 2, 2, 2, 0, 0, 2, 3, 3};
        for (int n = 0; n < ways.length; n += 2) {
            for (int m = 0; m < ways.length; m += 2) {
                for (int signs = 0; signs < 16; signs++) {
                    int[][] first = {t(0, 0, (signs & 1) * 40 - 20), t(ways[n], ways[n + 1], (signs & 2) - 1)};
                    int[][] second = {t(3, 3, (signs >> 2 & 1) * 2 - 1), t(3 + ways[m], 3 + ways[m + 1], (signs >> 3) * 6 - 3)};
                    RootShapes x = made(first, second);
                    due("two(1)", x.two(1), x.two(0) == 0 ? -6 : realOnes(first, second));
                }
            }
        }
    }

    private static void realWhereverTheyAre() {
        says(16, "signs by powers of both TERMS, odd or even");
        for (int i = 0; i <= 5; i++) {
            for (int j = 0; j <= 5; j++) {
                int[][] first = {t(i, j, 1), t(i + 1, j, -1)};
                int[][] second = {t(j, i, 2), t(j, i + 1, 2)};
                due("one step from " + i + ", " + j, made(first, second).two(1), 1);
            }
        }
    }

    private static void turnIsHowMany() {
        says(16, "its size is how many answers there are");
        RootShapes x = made(rows(t(0, 0, -1), t(2, 0, 1)), rows(t(0, 0, -1), t(0, 3, 1)));
        due("TURN", x.two(0), 6);
        due("MIXED", x.mixed(), 6);
        due("round a prime that has all roots of 1", x.round(7), 6);
        due("round another", x.round(13), 6);
    }

    private static boolean isPrime(int m) {
        for (int prime : PRIMES) {
            if (m == prime) {
                return true;
            }
        }
        return false;
    }

    private static void primesAlone() {
        says(17, "OUTSIDE: m is no prime of 2 to 31");
        RootShapes x = new RootShapes();
        for (int m = -40; m <= 130; m++) {
            due("round(" + m + ")", x.round(m), isPrime(m) ? (m - 1) * (m - 1) : -2);
            due("answer(" + m + ", 0)", x.answer(m, 0), isPrime(m) ? 101 : -2);
        }
    }

    private static void primesFarOff() {
        says(17, "OUTSIDE: m is no prime of 2 to 31");
        RootShapes x = made(EIGHT, EIGHT);
        for (int m : off(2, 31)) {
            due("round(" + m + ")", x.round(m), -2);
            due("answer(" + m + ", 0)", x.answer(m, 0), -2);
        }
        for (int prime : PRIMES) {
            due("round(" + -prime + ")", x.round(-prime), -2);
            due("round(" + (prime + 256) + ")", x.round(prime + 256), -2);
            due("round(" + (prime + 65536) + ")", x.round(prime + 65536), -2);
            due("round(" + (prime + LEAST) + ")", x.round(prime + LEAST), -2);
        }
    }

    private static void noLetterNought() {
        says(17, "answers x, y from 1 to m - 1");
        for (int m : PRIMES) {
            due("x y is never 0", made(rows(t(1, 1, 1)), rows()).round(m), 0);
            due("x is never 0", made(rows(t(6, 0, 1)), rows(t(6, 0, 1))).round(m), 0);
            due("x (y - 1)", made(rows(t(1, 1, 1), t(1, 0, -1)), rows()).round(m), m - 1);
            RootShapes all = made(rows(), rows(t(1, 0, 1), t(0, 0, 1)));
            due("x = m - 1 is the last", all.round(m), m - 1);
            due("its y from 1", all.answer(m, 0), 100 * (m - 1) + 1);
            due("to m - 1", all.answer(m, m - 2), 100 * (m - 1) + m - 1);
        }
    }

    private static void roundTwo() {
        says(17, "ROUND 2: 1, 1 alone");
        due("no terms", new RootShapes().round(2), 1);
        due("odd", made(rows(t(3, 4, -19)), rows()).round(2), 0);
        due("even", made(rows(t(3, 4, -20)), rows()).round(2), 1);
        due("odd and odd", made(rows(t(3, 4, -19), t(0, 0, 2), t(1, 0, 7)), rows()).round(2), 1);
        due("even, odd", made(rows(t(0, 0, 2)), rows(t(0, 0, 1))).round(2), 0);
        RootShapes x = made(rows(t(0, 0, 2)), rows(t(0, 0, -2)));
        due("answer(2, 0)", x.answer(2, 0), 101);
        due("answer(2, 1)", x.answer(2, 1), -6);
    }

    private static void noTermsAreNought() {
        says(17, "an EQUATION with no TERMS is 0, a multiple of every m");
        for (int m : PRIMES) {
            due("neither has terms", new RootShapes().round(m), (m - 1) * (m - 1));
            due("x = y in 0 alone", made(rows(t(1, 0, 1), t(0, 1, -1)), rows()).round(m), m - 1);
            due("x = y in 1 alone", made(rows(), rows(t(1, 0, 1), t(0, 1, -1))).round(m), m - 1);
            due("1 in 1 alone", made(rows(), rows(t(0, 0, 1))).round(m), 0);
        }
    }

    private static void bothEquations() {
        says(17, "with both EQUATIONS a multiple of m");
        RootShapes x = made(rows(t(1, 0, 1), t(0, 0, -3)), rows(t(0, 1, 1), t(0, 0, -4)));
        due("x = 3, y = 4", x.round(5), 1);
        due("answer(5, 0)", x.answer(5, 0), 304);
        due("y = 4 has no part of 1 to 2", x.round(3), 0);
        due("x = 3, y = 4 and y = 4, x = 3", made(rows(t(1, 0, 1), t(0, 0, -3)), rows(t(1, 0, 1), t(0, 0, -4))).round(5), 0);
        due("x = y, x = -y", made(rows(t(1, 0, 1), t(0, 1, -1)), rows(t(1, 0, 1), t(0, 1, 1))).round(31), 0);
        due("x = y, x = -y, round 2", made(rows(t(1, 0, 1), t(0, 1, -1)), rows(t(1, 0, 1), t(0, 1, 1))).round(2), 1);
    }

    private static void multiplesOfAnyKind() {
        says(17, "a multiple of m: 0, below 0, c itself");
        due("c = 5", made(rows(t(0, 0, 5)), rows(t(6, 6, -5))).round(5), 16);
        due("c = -20", made(rows(t(0, 0, -20)), rows(t(6, 6, 15))).round(5), 16);
        due("c = 19", made(rows(t(2, 1, 19)), rows(t(1, 2, -19))).round(19), 324);
        due("c = -19, 20", made(rows(t(2, 1, -19)), rows(t(1, 2, 20))).round(19), 0);
        due("c = 17", made(rows(t(2, 1, 17), t(1, 1, -17)), rows()).round(17), 256);
        due("-1 - x", made(rows(t(0, 0, -1), t(1, 0, -1)), rows()).round(3), 2);
        due("0 itself", made(rows(t(1, 0, 1), t(0, 0, -1)), rows(t(0, 1, 1), t(0, 0, -1))).answer(31, 0), 101);
    }

    private static int counted(int[][] first, int[][] second, int m) {
        int count = 0;
        for (int x = 1; x < m; x++) {
            for (int y = 1; y < m; y++) {
                count += isMultiple(first, x, y, m) && isMultiple(second, x, y, m) ? 1 : 0;
            }
        }
        return count;
    }

    private static boolean isMultiple(int[][] terms, int x, int y, int m) {
        BigInteger sum = BigInteger.ZERO;
        for (int[] term : terms) {
            BigInteger powers = BigInteger.valueOf(x).pow(term[0]).multiply(BigInteger.valueOf(y).pow(term[1]));
            sum = sum.add(powers.multiply(BigInteger.valueOf(term[2])));
        }
        return sum.mod(BigInteger.valueOf(m)).signum() == 0;
    }

    private static void greatestNumbers() {
        says(17, "answers of the greatest numbers and powers, told by whole numbers of any size");
        int[][] high = {{6, 6, 20}, {6, 5, 20}, {5, 6, 20}, {5, 5, 20}, {6, 4, 20}, {4, 6, 20}, {4, 5, 20}, {5, 4, 19}};
        int[][] low = {{6, 6, -20}, {6, 5, -20}, {5, 6, -20}, {5, 5, -20}, {6, 4, -20}, {4, 6, -20}, {4, 5, -20}, {5, 4, -17}};
        for (int m : PRIMES) {
            due("high, round " + m, made(high, rows()).round(m), counted(high, rows(), m));
            due("low, round " + m, made(rows(), low).round(m), counted(rows(), low, m));
            due("both, round " + m, made(high, low).round(m), counted(high, low, m));
            due("the same, round " + m, made(high, high).round(m), counted(high, high, m));
            due("eight, round " + m, made(EIGHT, rows()).round(m), counted(EIGHT, rows(), m));
        }
    }

    private static void powersGoRound() {
        says(17, "where numbers go round: x^(m - 1) is 1");
        due("x^6 = 1, y^6 = 1 round 7", made(rows(t(6, 0, 1), t(0, 0, -1)), rows(t(0, 6, 1), t(0, 0, -1))).round(7), 36);
        due("x^6 = 2 round 7", made(rows(t(6, 0, 1), t(0, 0, -2)), rows()).round(7), 0);
        due("x^6 = 9 round 7", made(rows(t(6, 0, 1), t(0, 0, -9)), rows()).round(7), 0);
        due("x^6 = 8 round 7", made(rows(t(6, 0, 1), t(0, 0, -8)), rows()).round(7), 36);
        due("x^4 = 1 round 5", made(rows(t(4, 0, 1), t(0, 0, -1)), rows()).round(5), 16);
        due("x^5 = x round 5", made(rows(t(5, 0, 1), t(1, 0, -1)), rows()).round(5), 16);
        due("x^6 = 1 round 31", made(rows(t(6, 0, 1), t(0, 0, -1)), rows()).round(31), 180);
        due("x^0 = 1", made(rows(t(0, 0, 1), t(0, 6, -1)), rows(t(0, 0, 3), t(6, 0, -3))).round(7), 36);
    }

    private static void roundIsOfTheTermsNow() {
        says(17, "answers are those of the TERMS there are now");
        RootShapes x = made(rows(t(1, 0, 1), t(0, 0, -3)), rows());
        due("x = 3", x.round(5), 4);
        due("answer(5, 0)", x.answer(5, 0), 301);
        due("change", x.change(0, 1, -2), -3);
        due("x = 2", x.answer(5, 0), 201);
        due("change refused", x.change(0, 1, 0), -102);
        due("x = 2 yet", x.answer(5, 3), 204);
        due("a term more", x.term(1, 0, 1, 1), 0);
        due("y = 0", x.round(5), 0);
        due("a term more", x.term(1, 0, 0, 1), 1);
        due("y = -1", x.answer(5, 0), 204);
        due("y = -1 round 7", x.answer(7, 0), 206);
        due("lift", x.lift(1, 0, 100), 0);
        due("lifts do not matter", x.answer(7, 0), 206);
        due("clear(0)", x.clear(0), 2);
        due("y = -1 alone", x.round(7), 6);
        due("clear(1)", x.clear(1), 2);
        due("no terms", x.round(7), 36);
    }

    private static void answersByXThenY() {
        says(18, "Answer k of ROUND m by x, then y: 100 x and y");
        RootShapes x = new RootShapes();
        for (int k = 0; k < 144; k++) {
            due("answer(13, " + k + ")", x.answer(13, k), 100 * (1 + k / 12) + 1 + k % 12);
        }
        RootShapes falling = made(rows(t(1, 0, 1), t(0, 1, 1)), rows());
        for (int k = 0; k < 30; k++) {
            due("x + y, answer(31, " + k + ")", falling.answer(31, k), 100 * (k + 1) + 30 - k);
        }
        RootShapes few = made(rows(t(0, 0, -1), t(2, 0, 1)), rows(t(0, 0, -1), t(0, 3, 1)));
        int[] want = {101, 102, 104, 601, 602, 604, -6};
        for (int k = 0; k < want.length; k++) {
            due("answer(7, " + k + ")", few.answer(7, k), want[k]);
        }
    }

    private static void noSuchAnswer() {
        says(18, "NONE");
        RootShapes x = made(rows(t(1, 0, 1), t(0, 1, -1)), rows());
        for (int m : PRIMES) {
            for (int k : off(0, m - 2)) {
                due("answer(" + m + ", " + k + ")", x.answer(m, k), -6);
            }
        }
        RootShapes none = made(rows(t(1, 1, 1)), rows(t(0, 0, 1)));
        for (int k : new int[] {0, 1, -1, 899, 900, LEAST, MOST}) {
            due("answer(31, " + k + ") of none", none.answer(31, k), -6);
            due("answer(2, " + k + ") of none", none.answer(2, k), -6);
        }
    }

    private static void answerOutside() {
        says(18, "OUTSIDE, likewise, ahead of NONE");
        RootShapes x = made(EIGHT, EIGHT);
        for (int m : new int[] {0, 1, 4, 6, 8, 9, 15, 21, 25, 27, 30, 32, 33, 37, 41, -2, -31, LEAST, MOST}) {
            due("answer(" + m + ", 0)", x.answer(m, 0), -2);
            due("answer(" + m + ", -1)", x.answer(m, -1), -2);
            due("answer(" + m + ", 900)", x.answer(m, 900), -2);
        }
    }

    private static void firstAndLastAnswers() {
        says(18, "the first and the last answer of each m");
        RootShapes x = new RootShapes();
        for (int m : PRIMES) {
            int count = (m - 1) * (m - 1);
            due("the first of " + m, x.answer(m, 0), 101);
            due("the last of " + m, x.answer(m, count - 1), 101 * (m - 1));
            due("none behind it", x.answer(m, count), -6);
            due("none ahead", x.answer(m, -1), -6);
            due("round(" + m + ")", x.round(m), count);
        }
    }

    private static void answersOfSeveralPrimes() {
        says(18, "answers of one m are not those of another");
        RootShapes x = made(rows(t(1, 0, 1), t(0, 0, 1)), rows(t(0, 1, 1), t(0, 0, 1)));
        for (int turn = 0; turn < 3; turn++) {
            for (int m : PRIMES) {
                due("answer(" + m + ", 0)", x.answer(m, 0), 101 * (m - 1));
                due("round(4) between", x.round(4), -2);
                due("answer(" + m + ", 1)", x.answer(m, 1), -6);
            }
            due("round(31)", x.round(31), 1);
        }
    }
}
