/** The boundary cases that the document names of fronts: part 3, promises 13 to 15. */
public final class FacesEdges extends Dues {
    private FacesEdges() {
    }

    public static void main(String[] args) {
        aims();
        aimsOutside();
        leastNotMost();
        frontOfOneTerm();
        frontsOfManyTerms();
        tiesAndNearTies();
        faceUnknown();
        faceState();
        loseOutside();
        loseState();
        moreThanOneTerm();
        parallelFronts();
        stepsOfTheLeastWay();
        byTheGreatestCommonPart();
        fromTheEnd();
        notTurnedAbout();
        rootsThatAreNotNought();
        rootsOfAnyKind();
        mostSteps();
        rootsThatGoRound();
        manyRootsThatGoRound();
        loseIsOfTheTermsNow();
        keepState();
        keepNotTold();
        keepHardlyTold();
        keepOfOnePoint();
        loseAcrossOneSide();
        keepAcrossSteepSides();
        keepWhereOnlyOneHasASide();
        keepIsNotLoseToAny();
        end();
    }

    private static void aims() {
        says(13, "p, q (-6 to 6 both, not both 0)");
        for (int p = -8; p <= 8; p++) {
            for (int q = -8; q <= 8; q++) {
                boolean fits = Math.abs(p) <= 6 && Math.abs(q) <= 6 && (p != 0 || q != 0);
                RootShapes x = made(rows(t(3, 3, 1)), rows(t(0, 6, 1), t(6, 0, 1)));
                due("face(0, " + p + ", " + q + ")", x.face(0, p, q), fits ? 1 : -2);
                int lower = p == q ? 3 : q < p ? 1 : 2;
                due("face(1, " + p + ", " + q + ")", x.face(1, p, q), fits ? lower : -2);
                due("lose(" + p + ", " + q + ")", x.lose(p, q), fits ? 0 : -2);
            }
        }
    }

    private static void aimsOutside() {
        says(13, "OUTSIDE");
        RootShapes x = made(SQUARE, SQUARE);
        for (int n : off(-6, 6)) {
            due("p " + n, x.face(0, n, 1), -2);
            due("q " + n, x.face(0, 1, n), -2);
            due("p and q " + n, x.face(1, n, n), -2);
            due("p " + n + ", q 0", x.face(1, n, 0), -2);
        }
        due("both 0", x.face(0, 0, 0), -2);
        due("p alone 0", x.face(0, 0, 6), 3);
        due("q alone 0", x.face(0, -6, 0), 10);
    }

    private static void leastNotMost() {
        says(13, "TERMS of an EQUATION with the least p i and q j");
        RootShapes x = made(WIDEST, rows());
        int[][] want = {
            {1, 1, 1}, {-1, 1, 2}, {1, -1, 4}, {-1, -1, 8}, {1, 0, 5}, {-1, 0, 10}, {0, 1, 3}, {0, -1, 12},
            {6, 6, 1}, {-6, 6, 2}, {6, -6, 4}, {-6, -6, 8}, {6, 1, 1}, {-1, 6, 2}, {1, -6, 4}, {-6, -1, 8}};
        for (int[] row : want) {
            due("face(0, " + row[0] + ", " + row[1] + ")", x.face(0, row[0], row[1]), row[2]);
        }
    }

    private static void frontOfOneTerm() {
        says(13, "FRONT of one TERM");
        RootShapes x = made(rows(t(6, 6, 1)), rows(t(0, 0, -1)));
        for (int n = 1; n <= 6; n++) {
            due("face(0, n, n)", x.face(0, n, n), 1);
            due("face(0, -n, -n)", x.face(0, -n, -n), 1);
            due("face(1, n, -n)", x.face(1, n, -n), 1);
        }
    }

    private static void frontsOfManyTerms() {
        says(13, "TERMS in its FRONT, as bits: from the first to the eighth");
        RootShapes x = made(rows(t(6, 6, 1), t(0, 3, 1), t(0, 0, 1), t(0, 5, 1), t(0, 1, 1), t(0, 6, 1), t(0, 2, 1), t(0, 4, 1)), rows());
        due("all but the first", x.face(0, 1, 0), 254);
        due("to the other side", x.face(0, -1, 0), 1);
        due("two", x.face(0, 0, -1), 33);
        due("one", x.face(0, 6, 1), 4);
        due("clear(0)", x.clear(0), 8);
        tell(x, 0, t(0, 6, 1), t(1, 5, 1), t(2, 4, 1), t(3, 3, 1), t(4, 2, 1), t(5, 1, 1), t(6, 0, 1), t(6, 6, 1));
        due("all but the eighth", x.face(0, 1, 1), 127);
        due("the eighth", x.face(0, -1, -1), 128);
        due("the eighth and the first", x.face(0, 0, -1), 129);
        due("the eighth and the seventh", x.face(0, -3, 0), 192);
    }

    private static void tiesAndNearTies() {
        says(13, "the least, and nothing near it");
        RootShapes x = made(rows(t(0, 6, 1), t(5, 0, 1), t(1, 5, 1)), rows());
        due("alike", x.face(0, 6, 5), 3);
        due("nearly alike", x.face(0, 5, 4), 1);
        due("nearly alike, the other way", x.face(0, 5, 5), 2);
        due("on the other side", x.face(0, -6, -5), 4);
        due("with 0 of p", x.face(0, 0, -1), 1);
    }

    private static void faceUnknown() {
        says(13, "UNKNOWN");
        RootShapes x = made(SQUARE, SQUARE);
        for (int n : off(0, 1)) {
            due("equation " + n, x.face(n, 1, 1), -1);
            due("UNKNOWN ahead of OUTSIDE", x.face(n, 0, 0), -1);
            due("UNKNOWN ahead of STATE", new RootShapes().face(n, 1, 1), -1);
        }
    }

    private static void faceState() {
        says(13, "STATE: it has none");
        RootShapes first = made(SQUARE, rows());
        RootShapes second = made(rows(), SQUARE);
        due("it has", first.face(0, 1, 1), 1);
        due("it has none", first.face(1, 1, 1), -3);
        due("it has none", second.face(0, 1, 1), -3);
        due("it has", second.face(1, 1, 1), 1);
        due("OUTSIDE ahead of STATE", first.face(1, 7, 1), -2);
        due("OUTSIDE ahead of STATE", first.face(1, 0, 0), -2);
        due("clear(0)", first.clear(0), 4);
        due("after clear", first.face(0, 1, 1), -3);
    }

    private static void loseOutside() {
        says(14, "OUTSIDE");
        RootShapes x = made(SQUARE, SQUARE);
        for (int n : off(-6, 6)) {
            due("p " + n, x.lose(n, 0), -2);
            due("q " + n, x.lose(0, n), -2);
            due("p and q " + n, x.lose(n, n), -2);
            due("OUTSIDE ahead of STATE", new RootShapes().lose(n, 1), -2);
        }
        due("both 0", x.lose(0, 0), -2);
        due("both 0, ahead of STATE", new RootShapes().lose(0, 0), -2);
        due("6, 0", x.lose(6, 0), 1);
        due("0, -6", x.lose(0, -6), 1);
    }

    private static void loseState() {
        says(14, "STATE: one has no TERMS");
        due("neither", new RootShapes().lose(1, 0), -3);
        due("0 alone", made(SQUARE, rows()).lose(1, 0), -3);
        due("1 alone", made(rows(), SQUARE).lose(1, 0), -3);
        RootShapes x = made(SQUARE, SQUARE);
        due("both", x.lose(1, 0), 1);
        due("clear(1)", x.clear(1), 4);
        due("after clear", x.lose(1, 0), -3);
    }

    private static void moreThanOneTerm() {
        says(14, "if both have more than one TERM");
        due("one and one", made(some(1), some(1)).lose(1, 0), 0);
        due("two and one", made(SQUARE, rows(t(6, 6, 1))).lose(1, 0), 0);
        due("one and two", made(rows(t(6, 6, 1)), SQUARE).lose(1, 0), 0);
        due("corners", made(SQUARE, SQUARE).lose(1, 1), 0);
        due("a side and a corner", made(SQUARE, rows(t(0, 0, 1), t(1, 1, 1))).lose(1, 0), 0);
        due("two and two", made(SQUARE, SQUARE).lose(1, 0), 1);
        due("two and three", made(rows(t(0, 0, 1), t(0, 1, 1)), rows(t(0, 0, 1), t(0, 1, 2), t(0, 2, 1))).lose(1, 0), 1);
    }

    private static void parallelFronts() {
        says(14, "(all on lines that are parallel)");
        RootShapes x = made(rows(t(0, 6, 1), t(6, 0, 2), t(6, 6, 1)), rows(t(0, 3, 2), t(3, 0, 4), t(6, 6, 1)));
        due("to 1, 1", x.lose(1, 1), 0);
        due("change", x.change(1, 1, -1), 4);
        due("change", x.change(1, 0, 1), 2);
        due("1 + 2 t^6, 1 - t^3", x.lose(1, 1), 0);
        due("change", x.change(0, 1, -1), 2);
        due("1 - t^6, 1 - t^3", x.lose(1, 1), 1);
        due("to -1, -1", x.lose(-1, -1), 0);
        due("to -1, 0", x.lose(-1, 0), 0);
    }

    /** A row of numbers along a way from a point on, as far as they are not 0. */
    private static int[][] along(int i, int j, int wayI, int wayJ, int... factors) {
        int[][] terms = new int[8][];
        int count = 0;
        for (int n = 0; n < factors.length; n++) {
            if (factors[n] != 0) {
                terms[count] = t(i + n * wayI, j + n * wayJ, factors[n]);
                count++;
            }
        }
        return java.util.Arrays.copyOf(terms, count);
    }

    private static int[] row(int... factors) {
        return factors;
    }

    /** Both rows along the first letter, in either order of the equations and to either side. */
    private static void loses(String what, int[] one, int[] other, int want) {
        RootShapes x = made(along(0, 2, 1, 0, one), along(0, 5, 1, 0, other));
        due(what, x.lose(0, 1), want);
        due(what + ", to the other side", x.lose(0, -1), want);
        due(what + ", the other first", made(along(0, 2, 1, 0, other), along(0, 5, 1, 0, one)).lose(0, 1), want);
        due(what + ", along y", made(along(1, 0, 0, 1, one), along(6, 0, 0, 1, other)).lose(1, 0), want);
        due(what + ", back", made(along(6, 2, -1, 0, one), along(6, 5, -1, 0, other)).lose(0, 1), want);
        due(what + ", falling", made(along(0, 6, 1, -1, one), along(0, 6, 1, -1, other)).lose(1, 1), want);
        due(what + ", rising", made(along(0, 0, 1, 1, one), along(0, 0, 1, 1, other)).lose(1, -1), want);
    }

    private static void stepsOfTheLeastWay() {
        says(14, "TERMS told by how many steps of the least whole way they are from the end");
        loses("1 - t^6 and 1 + t^3", row(1, 0, 0, 0, 0, 0, -1), row(1, 0, 0, 1), 1);
        loses("1 + t^6 and 1 + t^3", row(1, 0, 0, 0, 0, 0, 1), row(1, 0, 0, 1), 0);
        loses("1 + t^2 and 1 + t^4", row(1, 0, 1), row(1, 0, 0, 0, 1), 0);
        loses("1 + t^2 and 1 + t^6", row(1, 0, 1), row(1, 0, 0, 0, 0, 0, 1), 1);
        loses("1 - t and 1 - t^6", row(1, -1), row(1, 0, 0, 0, 0, 0, -1), 1);
        loses("1 + t and 1 + t^6", row(1, 1), row(1, 0, 0, 0, 0, 0, 1), 0);
        due("two steps of 1, 2", made(along(0, 0, 1, 2, 1, 1), along(0, 0, 1, 2, 1, 0, -1)).lose(2, -1), 1);
        due("two steps of 1, 2", made(along(0, 0, 1, 2, 1, 1), along(0, 0, 1, 2, 1, 0, 1)).lose(2, -1), 0);
        due("three steps of 2, 1", made(along(0, 3, 2, 1, 2, 1), along(0, 0, 2, 1, 8, 0, 0, 1)).lose(-1, 2), 1);
        due("three steps of 2, 1", made(along(0, 3, 2, 1, 2, 1), along(0, 0, 2, 1, 8, 0, 0, -1)).lose(-1, 2), 0);
        due("two steps of 2, -3", made(along(0, 6, 2, -3, 1, -3), along(0, 6, 2, -3, 1, 0, -9)).lose(3, 2), 1);
        due("one step of 5, 6", made(along(0, 0, 5, 6, 2, 3), along(1, 0, 5, 6, 4, 6)).lose(6, -5), 1);
        due("one step of 5, 6", made(along(0, 0, 5, 6, 2, 3), along(1, 0, 5, 6, 4, 7)).lose(6, -5), 0);
    }

    private static void byTheGreatestCommonPart() {
        says(14, "p, q by their greatest common part");
        RootShapes level = made(along(0, 2, 1, 0, 3, -1), along(0, 0, 1, 0, 9, 0, -1));
        RootShapes slant = made(along(0, 4, 1, -1, 3, -1), along(0, 6, 1, -1, 9, 0, -1));
        RootShapes steep = made(along(0, 6, 1, -2, 3, -1), along(0, 6, 1, -2, 9, 0, -1));
        for (int n = 1; n <= 6; n++) {
            due("lose(0, " + n + ")", level.lose(0, n), 1);
            due("lose(0, -" + n + ")", level.lose(0, -n), 1);
            due("lose(" + n + ", " + n + ")", slant.lose(n, n), 1);
            due("lose(-" + n + ", -" + n + ")", slant.lose(-n, -n), 1);
            due("lose of 2, 1 times " + n, steep.lose(2 * n, n), n <= 3 ? 1 : -2);
        }
        due("change", steep.change(0, 0, 2), 3);
        for (int n = 1; n <= 3; n++) {
            due("lose of 2, 1 times " + n, steep.lose(2 * n, n), 0);
        }
    }

    private static void fromTheEnd() {
        says(14, "from the end, wherever it is");
        for (int i = 0; i <= 5; i++) {
            for (int k = 0; k <= 4; k++) {
                due("at " + i + ", " + k, made(along(i, 1, 1, 0, 2, -1), along(k, 6, 1, 0, 4, 0, -1)).lose(0, 1), 1);
                due("at " + i + ", " + k, made(along(i, 1, 1, 0, 2, -1), along(k, 6, 1, 0, 4, 0, 1)).lose(0, 1), 0);
                due("at " + i + ", " + k, made(along(3, i, 0, 1, 2, -1), along(0, k, 0, 1, 4, 0, -1)).lose(-1, 0), 1);
            }
        }
    }

    private static void notTurnedAbout() {
        says(14, "both from the same end");
        loses("3 - t and 1 - 3 t", row(3, -1), row(1, -3), 0);
        loses("3 - t and 9 - t^2", row(3, -1), row(9, 0, -1), 1);
        loses("3 - t and 1 - 9 t^2", row(3, -1), row(1, 0, -9), 0);
        loses("1 + t and its own", row(1, 1), row(-20, -20), 1);
    }

    private static void rootsThatAreNotNought() {
        says(14, "a root together that is not 0");
        loses("t + t^2 and t + 2 t^2", row(0, 1, 1), row(0, 1, 2), 0);
        loses("t^4 + t^5 and t + 2 t^2", row(0, 0, 0, 0, 1, 1), row(0, 1, 2), 0);
        loses("t^4 + t^5 and t - t^3", row(0, 0, 0, 0, 1, 1), row(0, 1, 0, -1), 1);
        loses("1 + t and t + 2 t^2", row(1, 1), row(0, 1, 2), 0);
    }

    private static void rootsOfAnyKind() {
        says(14, "a root together: whole or not, real or not, once or more often");
        loses("2 + 3 t in (2 + 3 t)^2", row(2, 3), row(4, 12, 9), 1);
        loses("1 + t + t^2 in 1 - t^6", row(1, 1, 1), row(1, 0, 0, 0, 0, 0, -1), 1);
        loses("2 - t^2 and 4 - t^4", row(2, 0, -1), row(4, 0, 0, 0, -1), 1);
        loses("2 - t^2 and 3 - t^2", row(2, 0, -1), row(3, 0, -1), 0);
        loses("1 + t + t^2 and 1 + t + 2 t^2", row(1, 1, 1), row(1, 1, 2), 0);
        loses("(1 + t)^4 and (1 + t)^2", row(1, 4, 6, 4, 1), row(1, 2, 1), 1);
        loses("(1 + t)^4 and (1 - t)^4", row(1, 4, 6, 4, 1), row(1, -4, 6, -4, 1), 0);
    }

    private static void mostSteps() {
        says(14, "fronts of seven TERMS with the greatest numbers");
        int[] high = row(20, -19, 18, -17, 16, -15, 14);
        loses("itself", high, high, 1);
        loses("itself with other signs", high, row(-20, 19, -18, 17, -16, 15, -14), 1);
        loses("one number off", high, row(20, -19, 18, -17, 16, -15, 13), 0);
        loses("all 20 and 1", row(20, 20, 20, 20, 20, 20, 20), row(1, 1, 1, 1, 1, 1, 1), 1);
        loses("all 20, and all 20 but one", row(20, 20, 20, 20, 20, 20, 20), row(20, 20, 20, 20, 20, 20, -20), 0);
        loses("all 20, and six", row(20, 20, 20, 20, 20, 20, 20), row(20, 20, 20, 20, 20, 20), 0);
        loses("1 + 20 t and 20 t^6", row(1, 20), row(20, 20, 20, 20, 20, 20, 20), 0);
        loses("(1 + t)^6 and (1 + t)^6 but one", row(1, 6, 15, 20, 15, 6, 1), row(1, 6, 15, 19, 15, 6, 1), 0);
        loses("(1 + t)^6 and (1 + t)(2 - t^5)", row(1, 6, 15, 20, 15, 6, 1), row(2, 2, 0, 0, 0, -1, -1), 1);
    }

    /**
     * 19 + 20 t has no root with any of these, but what tells it (the second at -19 / 20, times 20^6)
     * is just the number named: whoever counts round that number takes it for 0.
     */
    private static void rootsThatGoRound() {
        says(14, "a root together, where numbers might go round");
        int[] line = row(19, 20);
        loses("1000000007", line, row(6, -4, -1, -16, -13, -17, -13), 0);
        loses("1000000009", line, row(8, -11, -10, -15, -3, -5, -11), 0);
        loses("998244353", line, row(-10, -19, -2, -19, -6, -4, -7), 0);
        loses("2^31 - 1", line, row(2, -10, 12, -5, 6, -15, -13), 0);
        loses("2^31", line, row(3, -4, 8, -5, 2, -10, 8), 0);
        loses("2^32", line, row(6, -8, 16, -10, 4, -20, 16), 0);
        loses("2^16", line, row(-14, -19, -4, -8, -12, -7, -4), 0);
    }

    private static void manyRootsThatGoRound() {
        says(14, "a root together, where numbers might go round");
        int[] line = row(19, 20);
        loses("2^24", line, row(7, -20, -18, -2, -13, -3, -4), 0);
        loses("10^9", line, row(18, -7, -10, -19, -20, -19, -20), 0);
        loses("2^29", line, row(15, -5, 1, -5, -15, -2, -8), 0);
        loses("2^30", line, row(11, -11, 3, -11, -10, -4, -16), 0);
        loses("65537", line, row(6, -12, -9, -7, -17, -1, -3), 0);
        loses("469762049", line, row(7, -13, -13, -14, -8, -3, -11), 0);
        loses("167772161", line, row(14, -7, 0, -5, -15, -5, -19), 0);
        loses("10007", line, row(-6, -12, -17, -15, -8, -17, -13), 0);
        loses("0 itself", line, row(0, 19, 20, 0, -19, -20), 1);
    }

    private static void loseIsOfTheTermsNow() {
        says(14, "FRONTS are those of the TERMS there are now");
        RootShapes x = made(along(0, 2, 1, 0, 1, 1), along(0, 2, 1, 0, 1, 1));
        due("at first", x.lose(0, 1), 1);
        due("change", x.change(0, 1, 2), 1);
        due("after a change", x.lose(0, 1), 0);
        due("change refused", x.change(0, 1, 0), -102);
        due("after a change refused", x.lose(0, 1), 0);
        due("change", x.change(0, 1, 1), 2);
        due("changed back", x.lose(0, 1), 1);
        due("term", x.term(1, 5, 0, 1), 2);
        due("another is the front", x.lose(0, 1), 0);
        due("to the other side it is not", x.lose(0, -1), 1);
        due("lift", x.lift(0, 0, 100), 0);
        due("lifts do not matter", x.lose(0, -1), 1);
    }

    private static void keepState() {
        says(15, "STATE: one has no TERMS");
        due("neither", new RootShapes().keep(), -3);
        due("0 alone", made(SQUARE, rows()).keep(), -3);
        due("1 alone", made(rows(), SQUARE).keep(), -3);
        due("STATE ahead of NO", made(some(1), rows()).keep(), -3);
        due("STATE ahead of NO", made(rows(), some(2)).keep(), -3);
    }

    private static void keepNotTold() {
        says(15, "NO: SUM lies on a line, or is a point");
        due("two points", made(rows(t(0, 0, 1)), rows(t(6, 6, 1))).keep(), -5);
        due("one point twice", made(rows(t(2, 3, 1)), rows(t(2, 3, 1))).keep(), -5);
        due("a point and a line", made(rows(t(1, 1, 1)), rows(t(0, 0, 1), t(5, 6, 1))).keep(), -5);
        due("a line and a point", made(along(0, 3, 1, 0, 1, 1, 1, 1, 1, 1, 1), rows(t(1, 1, 1))).keep(), -5);
        due("a line twice", made(along(0, 0, 1, 1, 1, 1), along(0, 0, 1, 1, 1, 1)).keep(), -5);
        due("lines there and back", made(rows(t(0, 0, 1), t(6, 3, 1)), rows(t(6, 6, 1), t(2, 4, 1))).keep(), -5);
        due("upright lines", made(along(0, 0, 0, 1, 1, 2, 3), along(5, 2, 0, 1, 1, 2)).keep(), -5);
        due("level lines", made(along(0, 0, 1, 0, 1, 2, 3), along(2, 5, 1, 0, 1, 2)).keep(), -5);
        due("falling lines", made(along(0, 6, 1, -1, 1, 2, 3), along(2, 5, 1, -1, 1, 2)).keep(), -5);
    }

    private static void keepHardlyTold() {
        says(15, "SUM that hardly lies on no line");
        due("lines hardly across", made(rows(t(0, 0, 1), t(5, 6, 1)), rows(t(0, 0, 1), t(4, 5, 1))).keep(), 1);
        due("a triangle and a point", made(rows(t(0, 0, 1), t(5, 6, 1), t(4, 5, 1)), rows(t(3, 3, 1))).keep(), 1);
        due("level and upright", made(along(0, 0, 1, 0, 1, 1), along(0, 0, 0, 1, 1, 1)).keep(), 1);
        RootShapes x = made(along(0, 0, 1, 0, 1, 1), along(0, 0, 1, 0, 1, 1));
        due("a line", x.keep(), -5);
        due("off the line", x.term(0, 0, 1, 1), 2);
        due("no line more", x.keep(), 0);
    }

    private static void keepOfOnePoint() {
        says(15, "one TERM alone never loses");
        due("a point and a square", made(rows(t(6, 6, 1)), WIDEST).keep(), 1);
        due("a square and a point", made(SQUARE, rows(t(0, 0, 1))).keep(), 1);
    }

    private static final int[][] SIDES = {{1, 0}, {0, 1}, {-1, 0}, {0, -1}};

    /** A square that loses with another across one side alone. */
    private static void loseAcrossOneSide() {
        says(15, "KEEP is whether they LOSE to no p, q at all: one is enough");
        int[][] firstOnes = {{0, 0, 1}, {6, 0, 2}, {6, 6, 3}, {0, 6, 5}};
        for (int side = 0; side < 4; side++) {
            int[][] second = {{0, 0, 7}, {6, 0, 11}, {6, 6, 13}, {0, 6, 17}};
            due("across none", made(firstOnes, second).keep(), 1);
            int next = (side + 1) % 4;
            second[side][2] = firstOnes[side][2];
            second[next][2] = firstOnes[next][2];
            RootShapes x = made(firstOnes, second);
            due("across side " + side, x.keep(), 0);
            int lost = 0;
            for (int[] aim : SIDES) {
                lost += x.lose(aim[0], aim[1]);
            }
            due("to one alone", lost, 1);
        }
    }

    /** Every least way that sides may have: two equations that lose across it and nowhere else. */
    private static void keepAcrossSteepSides() {
        says(15, "those across the sides of SUM, the steepest too");
        for (int wayI = -6; wayI <= 6; wayI++) {
            for (int wayJ = -6; wayJ <= 6; wayJ++) {
                if (commonPart(wayI, wayJ) == 1) {
                    keepAcross(wayI, wayJ);
                }
            }
        }
    }

    private static int commonPart(int a, int b) {
        return java.math.BigInteger.valueOf(a).gcd(java.math.BigInteger.valueOf(b)).intValue();
    }

    private static void keepAcross(int wayI, int wayJ) {
        int i = wayI < 0 ? 6 : 0;
        int j = wayJ < 0 ? 6 : 0;
        for (int[] off : WIDEST) {
            if (wayI * (off[1] - j) != wayJ * (off[0] - i)) {
                // The numbers of the third point let the other two sides keep.
                RootShapes x = made(rows(t(i, j, 1), t(i + wayI, j + wayJ, 2), t(off[0], off[1], 3)),
                    rows(t(i, j, 5), t(i + wayI, j + wayJ, 10), t(off[0], off[1], 17)));
                due("keep() along " + wayI + ", " + wayJ, x.keep(), 0);
                due("change", x.change(1, 1, 11), 10);
                due("keep() near it " + wayI + ", " + wayJ, x.keep(), 1);
            }
        }
    }

    private static void keepWhereOnlyOneHasASide() {
        says(15, "sides of SUM that only one of both has");
        due("a square and a square on its corner",
            made(SQUARE, rows(t(1, 0, 1), t(0, 1, 1), t(1, 2, 1), t(2, 1, 1))).keep(), 1);
        due("a line and a square, across", made(along(0, 0, 1, 1, 1, 1), SQUARE).keep(), 1);
        due("a line and a square, along", made(along(0, 0, 1, 0, 1, 1), SQUARE).keep(), 0);
        due("a line and a square, along, unlike", made(along(0, 0, 1, 0, 1, -1), SQUARE).keep(), 1);
    }

    private static void keepIsNotLoseToAny() {
        says(15, "KEEP: 1, 0, as lose has it to all p, q");
        int[] factors = {1, 1, 2, -1, 1, -2, 1, 3};
        for (int seed = 0; seed < 40; seed++) {
            RootShapes x = new RootShapes();
            for (int n = 0; n < 8; n++) {
                x.term(0, (n * 3 + seed) % 4, (n * n + seed / 4) % 3, factors[(n + seed) % 8]);
                x.term(1, (n * 5 + seed) % 3, (n * n + seed / 3) % 4, factors[(n * 3 + seed) % 8]);
            }
            int lost = 0;
            for (int p = -6; p <= 6; p++) {
                for (int q = -6; q <= 6; q++) {
                    lost += p == 0 && q == 0 ? 0 : x.lose(p, q);
                }
            }
            due("keep() of " + seed, x.keep(), x.shape(2, 0) == 0 ? -5 : lost == 0 ? 1 : 0);
        }
    }
}
