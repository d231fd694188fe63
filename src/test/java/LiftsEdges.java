/** The boundary cases that the document names of lifts and cells: part 2, promises 9 to 12. */
public final class LiftsEdges extends Dues {
    private LiftsEdges() {
    }

    public static void main(String[] args) {
        noughtAtFirst();
        noughtToHundred();
        whichItWas();
        liftUnknown();
        noCellsWithFewTerms();
        parallelWays();
        aAheadOfB();
        asMuchIsNotLess();
        lessByOne();
        lessByAPart();
        lessInEitherEquation();
        highestLifts();
        liftsOfAllAlike();
        cellsAreOfTheTermsNow();
        sizeHasNoSign();
        sizesFromLeastToMost();
        inOrder();
        unlikeNumbersOfTerms();
        mostCells();
        cellUnknown();
        cellOutside();
        fineWithNoCells();
        notFineInEither();
        alikeBesidesCells();
        fineSizesAreMixed();
        end();
    }

    private static final int[][] ACROSS = {{0, 0, 1}, {0, 1, 1}};
    private static final int[][] THREE = {{0, 0, 1}, {1, 0, 1}, {2, 0, 1}};

    private static void lifts(RootShapes x, int equation, int... heights) {
        for (int n = 0; n < heights.length; n++) {
            due("lift", x.lift(equation, n, heights[n]) >= 0 ? 1 : 0, 1);
        }
    }

    private static RootShapes lifted(int[][] first, int[] firstLifts, int[][] second, int... secondLifts) {
        RootShapes x = made(first, second);
        lifts(x, 0, firstLifts);
        lifts(x, 1, secondLifts);
        return x;
    }

    private static int[] at(int... heights) {
        return heights;
    }

    private static void noughtAtFirst() {
        says(9, "0 at first");
        RootShapes x = made(EIGHT, EIGHT);
        for (int n = 0; n < 8; n++) {
            due("about(0, " + n + ", 3)", x.about(0, n, 3), 0);
            due("lift(1, " + n + ", 5)", x.lift(1, n, 5), 0);
        }
        due("clear(1)", x.clear(1), 8);
        tell(x, 1, EIGHT);
        for (int n = 0; n < 8; n++) {
            due("lift(1, " + n + ", 5), told anew", x.lift(1, n, 5), 0);
        }
    }

    private static void noughtToHundred() {
        says(9, "0 to 100 .. OUTSIDE");
        RootShapes x = made(EIGHT, EIGHT);
        int before = 0;
        for (int v = -5; v <= 105; v++) {
            boolean fits = v >= 0 && v <= 100;
            due("lift(1, 7, " + v + ")", x.lift(1, 7, v), fits ? before : -2);
            before = fits ? v : before;
            due("LIFT of it", x.about(1, 7, 3), before);
        }
        for (int v : off(0, 100)) {
            due("lift(0, 0, " + v + ")", x.lift(0, 0, v), -2);
        }
        due("LIFT is as it was", x.about(0, 0, 3), 0);
    }

    private static void whichItWas() {
        says(9, "LIFT of a TERM: which it was");
        RootShapes x = made(some(2), some(2));
        due("to 100", x.lift(0, 1, 100), 0);
        due("to 100 again", x.lift(0, 1, 100), 100);
        due("to 0", x.lift(0, 1, 0), 100);
        due("to 0 again", x.lift(0, 1, 0), 0);
        due("to 1", x.lift(0, 1, 1), 0);
        due("another TERM's", x.about(0, 0, 3), 0);
        due("the other EQUATION's", x.about(1, 1, 3), 0);
        due("c is as it was", x.about(0, 1, 2), -20);
    }

    private static void liftUnknown() {
        says(9, "UNKNOWN; OUTSIDE");
        for (int size = 0; size <= 8; size++) {
            RootShapes x = made(some(size), some(8 - size));
            due("the last but none", x.lift(0, size, 1), -1);
            due("the last", x.lift(0, size - 1, 1), size == 0 ? -1 : 0);
            for (int n : off(0, size - 1)) {
                due("term " + n, x.lift(0, n, 1), -1);
                due("UNKNOWN ahead of OUTSIDE", x.lift(0, n, 101), -1);
            }
        }
        RootShapes x = made(EIGHT, EIGHT);
        for (int n : off(0, 1)) {
            due("equation " + n, x.lift(n, 0, 1), -1);
            due("UNKNOWN ahead of OUTSIDE", x.lift(n, 0, -1), -1);
        }
    }

    private static void noCellsWithFewTerms() {
        says(10, "two TERMS of EQUATION 0 and two of EQUATION 1");
        due("none", new RootShapes().cells(), 0);
        due("8 and 0", made(EIGHT, rows()).cells(), 0);
        due("0 and 8", made(rows(), EIGHT).cells(), 0);
        due("8 and 1", made(EIGHT, some(1)).cells(), 0);
        due("1 and 8", made(some(1), EIGHT).cells(), 0);
        due("1 and 1", made(some(1), some(1)).cells(), 0);
        due("2 and 2", made(some(2), ACROSS).cells(), 1);
    }

    private static void parallelWays() {
        says(10, "the ways not being parallel");
        int[][] way = {{0, 0, 1}, {2, 1, 1}};
        due("the same way", made(way, way).cells(), 0);
        due("the way back", made(way, rows(t(2, 1, 1), t(0, 0, 1))).cells(), 0);
        due("aside", made(way, rows(t(3, 4, 1), t(5, 5, 1))).cells(), 0);
        due("farther", made(way, rows(t(0, 0, 1), t(6, 3, 1))).cells(), 0);
        due("hardly across", made(rows(t(0, 0, 1), t(5, 6, 1)), rows(t(0, 0, 1), t(4, 5, 1))).cells(), 1);
        due("both level", made(rows(t(0, 0, 1), t(6, 0, 1)), rows(t(1, 5, 1), t(2, 5, 1))).cells(), 0);
        due("both upright", made(rows(t(0, 0, 1), t(0, 6, 1)), rows(t(5, 1, 1), t(5, 2, 1))).cells(), 0);
        due("with lifts", lifted(way, at(3, 9), rows(t(0, 0, 1), t(6, 3, 1)), 100, 0).cells(), 0);
    }

    private static void aAheadOfB() {
        says(10, "a ahead of b, c ahead of d");
        int[][] first = {{3, 0, 1}, {1, 0, 1}};
        int[][] second = {{0, 5, 1}, {0, 2, 1}};
        RootShapes x = made(first, second);
        due("cells()", x.cells(), 1);
        cellIs(x, 0, 0, 1, 0, 1, 6);
        RootShapes y = made(rows(first[1], first[0]), rows(second[1], second[0]));
        due("cells(), told the other way about", y.cells(), 1);
        cellIs(y, 0, 0, 1, 0, 1, 6);
    }

    private static void asMuchIsNotLess() {
        says(10, "no TERM of either has less: one with as much does not");
        RootShapes x = made(THREE, ACROSS);
        due("cells()", x.cells(), 3);
        cellIs(x, 0, 0, 1, 0, 1, 1);
        cellIs(x, 1, 0, 2, 0, 1, 2);
        cellIs(x, 2, 1, 2, 0, 1, 1);
        RootShapes y = made(ACROSS, THREE);
        due("cells() the other way about", y.cells(), 3);
        cellIs(y, 1, 0, 1, 0, 2, 2);
        due("alike by a slope", lifted(THREE, at(10, 20, 30), ACROSS, 7, 9).cells(), 3);
    }

    private static void lessByOne() {
        says(10, "no TERM of either has less: one less, one more");
        RootShapes above = lifted(THREE, at(10, 21, 30), ACROSS, 7, 9);
        due("the middle above", above.cells(), 1);
        cellIs(above, 0, 0, 2, 0, 1, 2);
        RootShapes below = lifted(THREE, at(10, 19, 30), ACROSS, 7, 9);
        due("the middle below", below.cells(), 2);
        cellIs(below, 0, 0, 1, 0, 1, 1);
        cellIs(below, 1, 1, 2, 0, 1, 1);
    }

    private static void lessByAPart() {
        says(10, "the one pair of numbers u, v, that need not be whole");
        int[][] thirds = {{0, 0, 1}, {3, 0, 1}, {1, 0, 1}};
        due("0, below a third", lifted(thirds, at(0, 1, 0), ACROSS).cells(), 2);
        due("1, above a third", lifted(thirds, at(0, 1, 1), ACROSS).cells(), 1);
        due("0, below two thirds", lifted(thirds, at(0, 2, 0), ACROSS).cells(), 2);
        due("1, above two thirds", lifted(thirds, at(0, 2, 1), ACROSS).cells(), 1);
        due("1, at three thirds", lifted(thirds, at(0, 3, 1), ACROSS).cells(), 3);
        due("1, below four thirds", lifted(thirds, at(2, 0, 1), ACROSS).cells(), 2);
        due("2, above four thirds", lifted(thirds, at(2, 0, 2), ACROSS).cells(), 1);
        int[][] upright = {{0, 0, 1}, {0, 5, 1}, {0, 2, 1}};
        int[][] level = {{0, 0, 1}, {1, 0, 1}};
        due("40 at 40", lifted(upright, at(0, 100, 40), level).cells(), 3);
        due("39 at 40", lifted(upright, at(0, 100, 39), level).cells(), 2);
        due("40 at 39.6", lifted(upright, at(0, 99, 40), level).cells(), 1);
        due("39 at 39.6", lifted(upright, at(0, 99, 39), level).cells(), 2);
    }

    private static void lessInEitherEquation() {
        says(10, "no TERM of either has less than these of its EQUATION");
        int[][] upright = {{0, 0, 1}, {0, 1, 1}, {0, 2, 1}};
        due("alike in both", made(THREE, upright).cells(), 9);
        due("above in 0", lifted(THREE, at(0, 1, 0), upright).cells(), 3);
        due("above in 1", lifted(THREE, at(), upright, 0, 1, 0).cells(), 3);
        due("above in both", lifted(THREE, at(0, 1, 0), upright, 0, 1, 0).cells(), 1);
        due("below in 0", lifted(THREE, at(1, 0, 1), upright).cells(), 6);
        due("below in 1", lifted(THREE, at(), upright, 1, 0, 1).cells(), 6);
        due("below in both", lifted(THREE, at(1, 0, 1), upright, 1, 0, 1).cells(), 4);
        due("above in 0, below in 1", lifted(THREE, at(0, 1, 0), upright, 1, 0, 1).cells(), 2);
    }

    private static void highestLifts() {
        says(10, "CELLS of the highest LIFTS and farthest TERMS");
        int[][] far = {{0, 0, 1}, {6, 0, 1}, {3, 0, 1}};
        due("50 at 50", lifted(far, at(0, 100, 50), ACROSS).cells(), 3);
        due("51 at 50", lifted(far, at(0, 100, 51), ACROSS).cells(), 1);
        due("49 at 50", lifted(far, at(0, 100, 49), ACROSS).cells(), 2);
        due("100 at 100", lifted(far, at(100, 100, 100), ACROSS, 100, 0).cells(), 3);
        RootShapes x = lifted(WIDEST, at(100, 0, 0, 100), WIDEST, 0, 100, 100, 0);
        due("saddles", x.cells(), 1);
        cellIs(x, 0, 1, 2, 0, 3, 72);
        due("fine()", x.fine(), 1);
    }

    private static void liftsOfAllAlike() {
        says(10, "LIFTS that are all alike are as none");
        int without = made(EIGHT, SQUARE).cells();
        for (int v : new int[] {1, 50, 100}) {
            due("all " + v, lifted(EIGHT, at(v, v, v, v, v, v, v, v), SQUARE, v, v, v, v).cells(), without);
            due("all " + v + " in 0", lifted(EIGHT, at(v, v, v, v, v, v, v, v), SQUARE).cells(), without);
        }
    }

    private static void cellsAreOfTheTermsNow() {
        says(10, "CELLS are those of the TERMS and LIFTS there are now");
        RootShapes x = made(THREE, ACROSS);
        due("at first", x.cells(), 3);
        due("lift(0, 1, 1)", x.lift(0, 1, 1), 0);
        due("after a lift", x.cells(), 1);
        due("lift(0, 1, 101)", x.lift(0, 1, 101), -2);
        due("after a lift refused", x.cells(), 1);
        due("change", x.change(0, 1, 20), 1);
        due("after a change", x.cells(), 1);
        due("a term more", x.term(1, 0, 2, 1), 2);
        due("after a term more", x.cells(), 3);
        due("fine()", x.fine(), 0);
        due("lift(1, 1, 1)", x.lift(1, 1, 1), 0);
        due("fine() after a lift", x.fine(), 1);
        due("cell(0, 4) after a lift", x.cell(0, 4), 4);
        due("clear(0)", x.clear(0), 3);
        due("cell(0, 4) after clear", x.cell(0, 4), -1);
        due("after clear", x.cells(), 0);
        tell(x, 0, t(0, 0, 1), t(5, 0, 1));
        due("told anew", x.cell(0, 4), 10);
    }

    private static void sizeHasNoSign() {
        says(11, "Its SIZE is that of the product across of both ways");
        int[][] first = {{1, 1, 1}, {3, 2, 1}};
        int[][] second = {{4, 4, 1}, {3, 6, 1}};
        due("there, there", made(first, second).cell(0, 4), 5);
        due("back, there", made(rows(first[1], first[0]), second).cell(0, 4), 5);
        due("there, back", made(first, rows(second[1], second[0])).cell(0, 4), 5);
        due("back, back", made(rows(first[1], first[0]), rows(second[1], second[0])).cell(0, 4), 5);
        due("the other first", made(second, first).cell(0, 4), 5);
    }

    private static void sizesFromLeastToMost() {
        says(11, "SIZE from the least to the most");
        due("1", made(rows(t(0, 0, 1), t(5, 6, 1)), rows(t(4, 5, 1), t(0, 0, 1))).cell(0, 4), 1);
        due("36", made(rows(t(0, 0, 1), t(6, 0, 1)), rows(t(0, 6, 1), t(0, 0, 1))).cell(0, 4), 36);
        due("72", made(rows(t(0, 0, 1), t(6, 6, 1)), rows(t(6, 0, 1), t(0, 6, 1))).cell(0, 4), 72);
    }

    private static void inOrder() {
        says(11, "CELLS are in order by a, b, c, d");
        RootShapes x = made(SQUARE, SQUARE);
        due("cells()", x.cells(), 26);
        int before = -1;
        for (int k = 0; k < 26; k++) {
            int here = x.cell(k, 0) * 512 + x.cell(k, 1) * 64 + x.cell(k, 2) * 8 + x.cell(k, 3);
            due("cell " + k + " behind the one ahead of it", here > before ? 1 : 0, 1);
            before = here;
        }
        cellIs(x, 0, 0, 1, 0, 2, 1);
        cellIs(x, 25, 2, 3, 1, 3, 1);
        RootShapes y = lifted(THREE, at(1, 0, 1), rows(t(0, 0, 1), t(0, 1, 1), t(0, 2, 1)), 1, 0, 1);
        cellIs(y, 0, 0, 1, 0, 1, 1);
        cellIs(y, 1, 0, 1, 1, 2, 1);
        cellIs(y, 2, 1, 2, 0, 1, 1);
        cellIs(y, 3, 1, 2, 1, 2, 1);
    }

    private static void unlikeNumbersOfTerms() {
        says(11, "a, b of EQUATION 0 and c, d of EQUATION 1, however many either has");
        RootShapes x = made(EIGHT, ACROSS);
        due("8 and 2", x.cells(), 26);
        cellIs(x, 25, 6, 7, 0, 1, 2);
        RootShapes y = made(ACROSS, EIGHT);
        due("2 and 8", y.cells(), 26);
        cellIs(y, 25, 0, 1, 6, 7, 2);
        RootShapes z = lifted(EIGHT, at(100, 100, 100, 100, 100, 100, 0, 0), ACROSS);
        due("the last two of 8 the lowest", z.cell(z.cells() - 1, 0), 6);
    }

    /** Eight terms each with but four pairs of parallel ways; a search found no two with less. */
    private static void mostCells() {
        says(11, "as many CELLS as were ever found");
        int[][] one = {{2, 0, 1}, {2, 1, 1}, {1, 4, 1}, {3, 6, 1}, {5, 6, 1}, {0, 0, 1}, {4, 3, 1}, {6, 2, 1}};
        int[][] other = {{1, 4, 1}, {3, 3, 1}, {1, 5, 1}, {0, 6, 1}, {4, 2, 1}, {6, 0, 1}, {2, 4, 1}, {5, 1, 1}};
        RootShapes x = made(one, other);
        due("cells()", x.cells(), 780);
        cellIs(x, 0, 0, 1, 0, 1, 2);
        cellIs(x, 779, 6, 7, 6, 7, 3);
        due("cell(780, 0)", x.cell(780, 0), -1);
        due("fine()", x.fine(), 0);
    }

    private static void cellUnknown() {
        says(11, "UNKNOWN");
        RootShapes x = made(SQUARE, SQUARE);
        for (int k : off(0, 25)) {
            due("cell(" + k + ", 0)", x.cell(k, 0), -1);
            due("UNKNOWN ahead of OUTSIDE", x.cell(k, 5), -1);
            due("of no cells", new RootShapes().cell(k, 0), -1);
        }
        due("the first of none", new RootShapes().cell(0, 0), -1);
        due("the first of none, ahead of OUTSIDE", new RootShapes().cell(0, 9), -1);
        due("parallel", made(THREE, THREE).cell(0, 0), -1);
    }

    private static void cellOutside() {
        says(11, "OUTSIDE");
        RootShapes x = made(SQUARE, SQUARE);
        for (int what : off(0, 4)) {
            due("cell(0, " + what + ")", x.cell(0, what), -2);
            due("cell(25, " + what + ")", x.cell(25, what), -2);
        }
    }

    private static void fineWithNoCells() {
        says(12, "FINE, if in no CELL another TERM has as much: with no CELLS too");
        due("no terms", new RootShapes().fine(), 1);
        due("8 and 0", made(EIGHT, rows()).fine(), 1);
        due("1 and 8", made(some(1), EIGHT).fine(), 1);
        due("parallel, all alike", made(THREE, THREE).fine(), 1);
        due("two and two", made(some(2), ACROSS).fine(), 1);
    }

    private static void notFineInEither() {
        says(12, "another TERM has as much as those of its EQUATION");
        due("alike in 0", made(THREE, ACROSS).fine(), 0);
        due("alike in 1", made(ACROSS, THREE).fine(), 0);
        due("above in 0", lifted(THREE, at(0, 1, 0), ACROSS).fine(), 1);
        due("below in 0", lifted(THREE, at(1, 0, 1), ACROSS).fine(), 1);
        due("above in 1", lifted(ACROSS, at(), THREE, 0, 1, 0).fine(), 1);
        due("below in 1", lifted(ACROSS, at(), THREE, 1, 0, 1).fine(), 1);
        due("a part above", lifted(rows(t(0, 0, 1), t(3, 0, 1), t(1, 0, 1)), at(0, 1, 1), ACROSS).fine(), 1);
        due("a part below", lifted(rows(t(0, 0, 1), t(3, 0, 1), t(1, 0, 1)), at(0, 1, 0), ACROSS).fine(), 1);
        due("alike by a slope", lifted(THREE, at(10, 20, 30), ACROSS, 7, 9).fine(), 0);
    }

    private static void alikeBesidesCells() {
        says(12, "in no CELL: TERMS alike where another has less do not matter");
        int[][] four = {{0, 0, 1}, {1, 0, 1}, {2, 0, 1}, {3, 0, 1}};
        RootShapes x = lifted(four, at(0, 5, 10, 0), ACROSS);
        due("cells()", x.cells(), 1);
        due("fine()", x.fine(), 1);
        RootShapes y = lifted(ACROSS, at(), four, 0, 5, 10, 0);
        due("cells()", y.cells(), 1);
        due("fine()", y.fine(), 1);
        due("lift(1, 3, 15)", y.lift(1, 3, 15), 0);
        due("fine()", y.fine(), 0);
    }

    private static void fineSizesAreMixed() {
        says(12, "With a FINE LIFT SIZES together are MIXED");
        int found = 0;
        for (int seed = 1; seed <= 60; seed++) {
            int size = 2 + seed % 7;
            RootShapes x = made(some(size), some(8 - seed % 5));
            for (int n = 0; n < 8; n++) {
                x.lift(0, n, (seed * 37 + n * n * 29 + n * seed * 11) % 101);
                x.lift(1, n, (seed * 53 + n * n * 43 + n * seed * 17) % 101);
            }
            if (x.fine() == 1) {
                found++;
                int sum = 0;
                for (int k = 0; k < x.cells(); k++) {
                    sum += x.cell(k, 4);
                }
                due("SIZES together", sum, x.mixed());
            }
        }
        due("many of them are fine", found > 30 ? 1 : 0, 1);
    }
}
