/** The boundary cases that the document names of terms and shapes: part 1, promises 1 to 8 and 19. */
public final class TermsEdges extends Dues {
    private TermsEdges() {
    }

    public static void main(String[] args) {
        noTermsAtFirst();
        objectsAreApart();
        eightAtMost();
        eightAtMostAfterClear();
        numberedAsTold();
        powers();
        factors();
        eachPointOnce();
        fullAheadOfNo();
        termUnknown();
        aboutKnows();
        aboutRefused();
        aboutFactorsLikeRefusals();
        changeToTheEnds();
        changeRefused();
        changeLeavesTheRest();
        clearOfNoneAndAll();
        clearForgetsAll();
        clearUnknown();
        toldCounts();
        toldUnknown();
        onePoint();
        pointsOnALine();
        noDent();
        cornersAreNeeded();
        firstCorner();
        toTheLeft();
        areaTwiceOver();
        rimAndInner();
        thinShapes();
        sumOfPoints();
        sumsThatAreAlike();
        mostCorners();
        sumOfTheWidest();
        shapeRefused();
        shapeState();
        cornerUnknown();
        cornerState();
        mixedOfNoArea();
        mixedOfTheMost();
        mixedState();
        shapesAreOfTheTermsNow();
        end();
    }

    private static void noTermsAtFirst() {
        says(1, "No TERMS.");
        RootShapes x = new RootShapes();
        for (int e = 0; e < 2; e++) {
            due("told", x.told(e), 0);
            for (int n = 0; n < 8; n++) {
                due("about a term", x.about(e, n, 0), -101);
                due("change of a term", x.change(e, n, 1), -101);
                due("lift of a term", x.lift(e, n, 1), -1);
            }
            due("shape", x.shape(e, 0), -3);
            due("corner", x.corner(e, 0), -3);
            due("face", x.face(e, 1, 0), -3);
            due("clear", x.clear(e), 0);
        }
        due("mixed()", x.mixed(), -3);
        due("cells()", x.cells(), 0);
        due("fine()", x.fine(), 1);
        due("keep()", x.keep(), -3);
        due("two(0)", x.two(0), -1003);
        due("the first term", x.term(0, 0, 0, 1), 0);
        due("the first term", x.term(1, 0, 0, 1), 0);
    }

    private static void objectsAreApart() {
        says(1, "No TERMS, whatever was told to another object");
        RootShapes x = made(EIGHT, EIGHT);
        due("lift", x.lift(0, 0, 100), 0);
        due("cells", x.cells() > 0 ? 1 : 0, 1);
        due("round", x.round(3), x.round(3));
        RootShapes y = new RootShapes();
        due("told(0)", y.told(0), 0);
        due("cells()", y.cells(), 0);
        due("round(3)", y.round(3), 4);
        due("term", y.term(0, 0, 0, 1), 0);
        due("its LIFT", y.about(0, 0, 3), 0);
        due("told(0) of the first", x.told(0), 8);
    }

    private static void eightAtMost() {
        says(2, "8 at most each .. FULL");
        RootShapes x = new RootShapes();
        for (int n = 0; n < 8; n++) {
            due("term " + n, x.term(0, n % 7, n / 7, 1), n);
        }
        due("a ninth", x.term(0, 6, 6, 1), -4);
        due("told(0)", x.told(0), 8);
        due("no ninth", x.about(0, 8, 0), -101);
        for (int n = 0; n < 8; n++) {
            due("term " + n + " of the other", x.term(1, n % 7, n / 7, 1), n);
        }
        due("a ninth of the other", x.term(1, 6, 6, 1), -4);
        due("a ninth again", x.term(0, 6, 6, 1), -4);
        due("told(1)", x.told(1), 8);
    }

    private static void eightAtMostAfterClear() {
        says(2, "8 at most each, after clear too");
        RootShapes x = made(EIGHT, EIGHT);
        due("clear(0)", x.clear(0), 8);
        due("the other is full as before", x.term(1, 4, 4, 1), -4);
        tell(x, 0, EIGHT);
        due("a ninth", x.term(0, 4, 4, 1), -4);
    }

    private static void numberedAsTold() {
        says(2, "numbered from 0 on as they were told .. its number");
        RootShapes x = new RootShapes();
        for (int n = 0; n < 8; n++) {
            due("of 0", x.term(0, EIGHT[n][0], EIGHT[n][1], EIGHT[n][2]), n);
            due("refused, takes no number", x.term(0, 7, 0, 1), -2);
            due("of 1", x.term(1, EIGHT[7 - n][0], EIGHT[7 - n][1], EIGHT[7 - n][2]), n);
        }
        for (int n = 0; n < 8; n++) {
            for (int what = 0; what < 3; what++) {
                due("about(0, " + n + ", " + what + ")", x.about(0, n, what), EIGHT[n][what]);
                due("about(1, " + n + ", " + what + ")", x.about(1, n, what), EIGHT[7 - n][what]);
            }
        }
    }

    private static void powers() {
        says(2, "i, j 0 to 6 .. OUTSIDE");
        for (int i = -2; i <= 8; i++) {
            for (int j = -2; j <= 8; j++) {
                boolean fits = i >= 0 && i <= 6 && j >= 0 && j <= 6;
                for (int e = 0; e < 2; e++) {
                    RootShapes x = new RootShapes();
                    due("term(" + e + ", " + i + ", " + j + ", 1)", x.term(e, i, j, 1), fits ? 0 : -2);
                    due("told", x.told(e), fits ? 1 : 0);
                }
            }
        }
        RootShapes x = new RootShapes();
        for (int n : off(0, 6)) {
            due("i " + n, x.term(0, n, 3, 1), -2);
            due("j " + n, x.term(1, 3, n, 1), -2);
            due("i and j " + n, x.term(1, n, n, 1), -2);
        }
    }

    private static void factors() {
        says(2, "c -20 to 20, not 0 .. OUTSIDE");
        for (int c = -25; c <= 25; c++) {
            boolean fits = c >= -20 && c <= 20 && c != 0;
            for (int e = 0; e < 2; e++) {
                RootShapes x = new RootShapes();
                due("term with c " + c, x.term(e, 2, 3, c), fits ? 0 : -2);
                due("c of it", x.about(e, 0, 2), fits ? c : -101);
            }
        }
        RootShapes x = new RootShapes();
        for (int c : off(-20, 20)) {
            due("term with c " + c, x.term(0, 2, 3, c), -2);
        }
        due("told(0)", x.told(0), 0);
    }

    private static void eachPointOnce() {
        says(2, "each i, j once .. NO: there is one with i, j");
        RootShapes x = made(some(7), rows());
        for (int n = 0; n < 7; n++) {
            due("the point of " + n, x.term(0, EIGHT[n][0], EIGHT[n][1], EIGHT[n][2]), -5);
            due("with another c", x.term(0, EIGHT[n][0], EIGHT[n][1], 19), -5);
        }
        due("told(0)", x.told(0), 7);
        due("i alike alone", x.term(0, 3, 4, 1), 7);
        due("the other has its own points", x.term(1, 3, 4, 1), 0);
        due("once there too", x.term(1, 3, 4, 1), -5);
        due("j alike alone", x.term(1, 2, 4, 1), 1);
        due("turned about", x.term(1, 4, 3, 1), 2);
        due("clear(1)", x.clear(1), 3);
        due("its point is free again", x.term(1, 3, 4, 1), 0);
        due("c is as it was", x.about(0, 1, 2), -20);
    }

    private static void fullAheadOfNo() {
        says(2, "the first of these that fits: UNKNOWN, OUTSIDE, FULL, NO");
        RootShapes x = made(EIGHT, some(7));
        for (int[] row : EIGHT) {
            due("FULL and NO", x.term(0, row[0], row[1], 1), -4);
            due("OUTSIDE, FULL and NO", x.term(0, row[0], row[1], 0), -2);
            due("OUTSIDE and FULL", x.term(0, row[0], 7, 1), -2);
            due("UNKNOWN, OUTSIDE", x.term(2, row[0], -1, 21), -1);
        }
        due("seven: NO", x.term(1, 0, 0, 1), -5);
        due("seven: OUTSIDE and NO", x.term(1, 0, 0, -21), -2);
        due("the eighth", x.term(1, 5, 4, 1), 7);
        due("eight: FULL", x.term(1, 0, 0, 1), -4);
    }

    private static void termUnknown() {
        says(2, "UNKNOWN: there is no such EQUATION");
        RootShapes x = made(some(2), some(1));
        for (int n : off(0, 1)) {
            due("equation " + n, x.term(n, 4, 4, 1), -1);
            due("and a point that is there", x.term(n, 0, 0, 1), -1);
        }
        due("told(0)", x.told(0), 2);
        due("told(1)", x.told(1), 1);
    }

    private static void aboutKnows() {
        says(3, "0 i, 1 j, 2 c, 3 LIFT");
        RootShapes x = made(rows(t(0, 6, 20)), rows(t(6, 0, -20)));
        due("lift", x.lift(1, 0, 100), 0);
        int[][] want = {{0, 6, 20, 0}, {6, 0, -20, 100}};
        for (int e = 0; e < 2; e++) {
            for (int what = 0; what < 4; what++) {
                due("about(" + e + ", 0, " + what + ")", x.about(e, 0, what), want[e][what]);
            }
        }
    }

    private static void aboutRefused() {
        says(3, "UNKNOWN (-101); OUTSIDE (-102)");
        for (int size = 0; size <= 8; size++) {
            RootShapes x = made(some(size), some(8 - size));
            due("the last but none", x.about(0, size, 0), -101);
            due("the last", x.about(0, size - 1, 0), size == 0 ? -101 : EIGHT[size - 1][0]);
            for (int n : off(0, size - 1)) {
                due("term " + n, x.about(0, n, 2), -101);
                due("UNKNOWN ahead of OUTSIDE", x.about(0, n, -1), -101);
            }
        }
        RootShapes x = made(EIGHT, EIGHT);
        for (int n : off(0, 1)) {
            due("equation " + n, x.about(n, 0, 0), -101);
            due("UNKNOWN ahead of OUTSIDE", x.about(n, 0, 4), -101);
        }
        for (int n : off(0, 3)) {
            due("what " + n, x.about(0, 7, n), -102);
        }
    }

    private static void aboutFactorsLikeRefusals() {
        says(3, "a c like a refusal is told as it is");
        for (int c = -20; c < 0; c++) {
            RootShapes x = made(rows(t(1, 1, c)), rows());
            due("about c", x.about(0, 0, 2), c);
            due("change of c", x.change(0, 0, 1), c);
        }
    }

    private static void changeToTheEnds() {
        says(4, "c of a TERM is another one: which it was");
        RootShapes x = made(rows(t(1, 1, 7)), EIGHT);
        int before = 7;
        for (int c : new int[] {-20, 20, 1, -1, -1, 20, -20}) {
            due("change to " + c, x.change(0, 0, c), before);
            due("c of it", x.about(0, 0, 2), c);
            before = c;
        }
        due("the last of eight", x.change(1, 7, -2), 2);
        due("c of it", x.about(1, 7, 2), -2);
    }

    private static void changeRefused() {
        says(4, "UNKNOWN, OUTSIDE (-101, -102)");
        RootShapes x = made(some(3), EIGHT);
        due("to 0", x.change(0, 2, 0), -102);
        for (int c : off(-20, 20)) {
            due("to " + c, x.change(0, 2, c), -102);
        }
        for (int n : off(0, 2)) {
            due("term " + n, x.change(0, n, 1), -101);
            due("UNKNOWN ahead of OUTSIDE", x.change(0, n, 0), -101);
        }
        for (int n : off(0, 1)) {
            due("equation " + n, x.change(n, 0, 1), -101);
            due("UNKNOWN ahead of OUTSIDE", x.change(n, 0, 21), -101);
        }
        due("a ninth", x.change(1, 8, 1), -101);
        due("c is as it was", x.about(0, 2, 2), 20);
    }

    private static void changeLeavesTheRest() {
        says(4, "c alone is another one");
        RootShapes x = made(EIGHT, EIGHT);
        due("lift", x.lift(0, 4, 9), 0);
        due("area", x.shape(0, 0), 72);
        due("change", x.change(0, 4, -7), 3);
        for (int n = 0; n < 8; n++) {
            due("i", x.about(0, n, 0), EIGHT[n][0]);
            due("j", x.about(0, n, 1), EIGHT[n][1]);
            due("c", x.about(0, n, 2), n == 4 ? -7 : EIGHT[n][2]);
            due("LIFT", x.about(0, n, 3), n == 4 ? 9 : 0);
            due("c of the other", x.about(1, n, 2), EIGHT[n][2]);
        }
        due("area", x.shape(0, 0), 72);
    }

    private static void clearOfNoneAndAll() {
        says(5, "All TERMS of an EQUATION go: how many there were");
        for (int size = 0; size <= 8; size++) {
            RootShapes x = made(some(size), some(8 - size));
            due("clear(0)", x.clear(0), size);
            due("told(0)", x.told(0), 0);
            due("told(1)", x.told(1), 8 - size);
            due("clear(0) again", x.clear(0), 0);
            due("clear(1)", x.clear(1), 8 - size);
            due("clear(1) again", x.clear(1), 0);
        }
    }

    private static void clearForgetsAll() {
        says(5, "All TERMS go, and LIFTS with them");
        RootShapes x = made(EIGHT, EIGHT);
        for (int n = 0; n < 8; n++) {
            due("lift", x.lift(0, n, 10 + n), 0);
            due("lift", x.lift(1, n, 20 + n), 0);
        }
        due("clear(0)", x.clear(0), 8);
        due("a term that was", x.about(0, 0, 0), -101);
        due("its lift", x.lift(0, 0, 1), -1);
        due("its change", x.change(0, 0, 1), -101);
        due("shape", x.shape(0, 0), -3);
        tell(x, 0, EIGHT);
        for (int n = 0; n < 8; n++) {
            due("0 at first", x.about(0, n, 3), 0);
            due("the other's LIFT", x.about(1, n, 3), 20 + n);
        }
    }

    private static void clearUnknown() {
        says(5, "UNKNOWN");
        RootShapes x = made(some(2), some(3));
        for (int n : off(0, 1)) {
            due("clear(" + n + ")", x.clear(n), -1);
        }
        due("told(0)", x.told(0), 2);
        due("told(1)", x.told(1), 3);
    }

    private static void toldCounts() {
        says(19, "TERMS of an EQUATION");
        for (int size = 0; size <= 8; size++) {
            RootShapes x = made(some(size), some(8 - size));
            due("told(0)", x.told(0), size);
            due("told(1)", x.told(1), 8 - size);
        }
    }

    private static void toldUnknown() {
        says(19, "UNKNOWN");
        RootShapes x = made(some(2), some(3));
        for (int n : off(0, 1)) {
            due("told(" + n + ")", x.told(n), -1);
            due("told(" + n + ") of a new one", new RootShapes().told(n), -1);
        }
    }

    private static void onePoint() {
        says(6, "of one point that alone");
        for (int i = 0; i <= 6; i++) {
            for (int j = 0; j <= 6; j++) {
                RootShapes x = made(rows(t(i, j, 1)), rows(t(6 - i, j, -1)));
                figure(x, 0, 0, 1, 0, 20 * i + j);
                figure(x, 1, 0, 1, 0, 20 * (6 - i) + j);
                figure(x, 2, 0, 1, 0, 120 + 2 * j);
            }
        }
    }

    private static void pointsOnALine() {
        says(6, "of points on a line both ends .. of a SHAPE on a line all of them");
        figure(made(rows(t(3, 2, 1), t(6, 2, 1), t(0, 2, 1), t(4, 2, 1)), rows()), 0, 0, 7, 0, 2, 122);
        figure(made(rows(t(2, 3, 1), t(2, 6, 1), t(2, 0, 1), t(2, 4, 1)), rows()), 0, 0, 7, 0, 40, 46);
        figure(made(rows(t(3, 3, 1), t(6, 6, 1), t(0, 0, 1), t(1, 1, 1)), rows()), 0, 0, 7, 0, 0, 126);
        figure(made(rows(t(3, 3, 1), t(6, 0, 1), t(0, 6, 1), t(5, 1, 1)), rows()), 0, 0, 7, 0, 6, 120);
        figure(made(rows(), rows(t(1, 2, 1), t(3, 6, 1), t(0, 0, 1), t(2, 4, 1))), 1, 0, 4, 0, 0, 66);
        figure(made(rows(), rows(t(3, 3, 1), t(0, 5, 1), t(6, 1, 1))), 1, 0, 3, 0, 5, 121);
        figure(made(rows(t(6, 6, 1), t(6, 5, 1)), rows()), 0, 0, 2, 0, 125, 126);
        figure(made(rows(t(5, 6, 1), t(0, 0, 1)), rows()), 0, 0, 2, 0, 0, 106);
        figure(made(rows(t(0, 0, 1), t(1, 0, 1), t(2, 0, 1), t(3, 0, 1), t(4, 0, 1), t(5, 0, 1), t(6, 0, 1)), rows()),
            0, 0, 7, 0, 0, 120);
    }

    private static void noDent() {
        says(6, "the least round figure with no dent that holds all its points");
        figure(made(rows(t(0, 0, 1), t(6, 0, 1), t(3, 1, 1), t(3, 6, 1), t(2, 1, 1), t(4, 1, 1)), rows()),
            0, 36, 12, 13, 0, 120, 66);
        figure(made(rows(t(3, 1, 1), t(3, 5, 1), t(0, 0, 1), t(6, 0, 1), t(6, 6, 1), t(0, 6, 1), t(1, 3, 1), t(5, 3, 1)), rows()),
            0, 72, 24, 25, 0, 120, 126, 6);
        figure(made(rows(), rows(t(0, 0, 1), t(1, 2, 1), t(2, 4, 1), t(3, 6, 1), t(1, 3, 1))), 1, 3, 5, 0, 0, 66, 23);
    }

    private static void cornersAreNeeded() {
        says(6, "CORNERS: those of its points without which it would be less");
        figure(made(rows(t(3, 0, 1), t(6, 3, 1), t(3, 6, 1), t(0, 3, 1), t(0, 0, 1), t(6, 0, 1), t(6, 6, 1), t(0, 6, 1)), rows()),
            0, 72, 24, 25, 0, 120, 126, 6);
        figure(made(rows(t(2, 2, 1), t(1, 3, 1), t(3, 1, 1), t(4, 0, 1), t(0, 4, 1), t(0, 0, 1), t(1, 0, 1), t(0, 2, 1)), rows()),
            0, 16, 12, 3, 0, 80, 4);
    }

    private static void firstCorner() {
        says(7, "from the one with the least i (of several the least j) on");
        figure(made(rows(t(4, 2, 1), t(0, 3, 1), t(0, 5, 1), t(0, 1, 1)), rows()), 0, 16, 6, 6, 1, 82, 5);
        figure(made(rows(t(4, 0, 1), t(2, 0, 1), t(1, 6, 1), t(1, 5, 1)), rows()), 0, 13, 7, 4, 25, 40, 80, 26);
        figure(made(rows(t(6, 0, 1), t(0, 6, 1), t(6, 6, 1)), rows()), 0, 36, 18, 10, 6, 120, 126);
        for (int turn = 0; turn < 3; turn++) {
            int[][] terms = {{0, 6, 1}, {3, 0, 1}, {5, 5, 1}};
            figure(made(rows(terms[turn], terms[(turn + 1) % 3], terms[(turn + 2) % 3]), rows()), 0, 27, 5, 12, 6, 60, 105);
            figure(made(rows(terms[(turn + 2) % 3], terms[(turn + 1) % 3], terms[turn]), rows()), 0, 27, 5, 12, 6, 60, 105);
        }
    }

    private static void toTheLeft() {
        says(7, "to the left (so that the SHAPE lies to the left of the way)");
        RootShapes x = made(rows(t(3, 6, 1), t(6, 3, 1), t(3, 0, 1), t(0, 3, 1)), rows(t(0, 1, 1), t(0, 0, 1), t(1, 0, 1)));
        figure(x, 0, 36, 12, 13, 3, 60, 123, 66);
        figure(x, 1, 1, 3, 0, 0, 20, 1);
        figure(x, 2, 55, 15, 21, 3, 60, 80, 143, 67, 4);
    }

    private static void areaTwiceOver() {
        says(6, "AREA is told twice over (whole)");
        due("a half", made(rows(t(0, 0, 1), t(1, 0, 1), t(0, 1, 1)), rows()).shape(0, 0), 1);
        due("a half, long and thin", made(rows(t(0, 0, 1), t(5, 6, 1), t(4, 5, 1)), rows()).shape(0, 0), 1);
        due("one and a half", made(rows(t(0, 0, 1), t(2, 1, 1), t(1, 2, 1)), rows()).shape(0, 0), 3);
        due("one", made(SQUARE, rows()).shape(0, 0), 2);
        due("thirty six", made(WIDEST, rows()).shape(0, 0), 72);
        due("none of a line", made(rows(t(0, 0, 1), t(6, 6, 1)), rows()).shape(0, 0), 0);
        due("none of a point", made(rows(t(6, 6, 1)), rows()).shape(0, 0), 0);
    }

    private static void rimAndInner() {
        says(6, "RIM: points with whole i, j on its border, INNER: those within");
        figure(made(rows(t(0, 0, 1), t(6, 0, 1), t(0, 6, 1)), rows()), 0, 36, 18, 10, 0, 120, 6);
        figure(made(rows(t(0, 0, 1), t(2, 1, 1), t(1, 2, 1)), rows()), 0, 3, 3, 1, 0, 41, 22);
        figure(made(rows(t(0, 0, 1), t(6, 4, 1), t(3, 6, 1)), rows()), 0, 24, 6, 10, 0, 124, 66);
        figure(made(WIDEST, rows()), 0, 72, 24, 25, 0, 120, 126, 6);
        figure(made(SQUARE, rows()), 0, 2, 4, 0, 0, 20, 21, 1);
    }

    private static void thinShapes() {
        says(6, "INNER is 0, where there is nothing within");
        figure(made(rows(t(0, 0, 1), t(5, 6, 1), t(4, 5, 1)), rows()), 0, 1, 3, 0, 0, 106, 85);
        figure(made(rows(t(0, 0, 1), t(6, 0, 1), t(0, 1, 1), t(6, 1, 1)), rows()), 0, 12, 14, 0, 0, 120, 121, 1);
        figure(made(rows(t(0, 6, 1), t(6, 0, 1)), rows()), 0, 0, 7, 0, 6, 120);
    }

    private static void sumOfPoints() {
        says(6, "SUM: a point of SHAPE 0 and one of SHAPE 1 together");
        figure(made(rows(t(0, 0, 1)), rows(t(0, 0, 1))), 2, 0, 1, 0, 0);
        figure(made(rows(t(6, 6, 1)), rows(t(6, 6, 1))), 2, 0, 1, 0, 252);
        figure(made(rows(t(6, 1, 1)), WIDEST), 2, 72, 24, 25, 121, 241, 247, 127);
        figure(made(rows(t(0, 0, 1), t(6, 0, 1)), rows(t(0, 0, 1), t(0, 6, 1))), 2, 72, 24, 25, 0, 120, 126, 6);
        figure(made(rows(t(0, 0, 1), t(6, 3, 1)), rows(t(6, 6, 1), t(2, 4, 1))), 2, 0, 6, 0, 44, 249);
        figure(made(rows(t(0, 6, 1), t(6, 0, 1)), rows(t(0, 6, 1), t(6, 0, 1))), 2, 0, 13, 0, 12, 240);
    }

    private static void sumsThatAreAlike() {
        says(6, "SUM, where points come together more than once");
        figure(made(SQUARE, SQUARE), 2, 8, 8, 1, 0, 40, 42, 2);
        int[][] line = {{0, 0, 1}, {1, 0, 1}, {2, 0, 1}, {3, 0, 1}, {4, 0, 1}, {5, 0, 1}, {6, 0, 1}};
        figure(made(line, line), 2, 0, 13, 0, 0, 240);
        figure(made(line, rows(t(0, 0, 1), t(0, 1, 1), t(1, 0, 1), t(1, 1, 1))), 2, 14, 16, 0, 0, 140, 141, 1);
    }

    private static final int[][] EVEN = {
        {2, 0, 1}, {4, 0, 1}, {6, 2, 1}, {6, 4, 1}, {4, 6, 1}, {2, 6, 1}, {0, 4, 1}, {0, 2, 1}};
    private static final int[][] SKEW = {
        {3, 0, 1}, {5, 1, 1}, {6, 3, 1}, {5, 5, 1}, {3, 6, 1}, {1, 5, 1}, {0, 3, 1}, {1, 1, 1}};

    private static void mostCorners() {
        says(7, "CORNERS, as many as there may be: 8 each, 16 of SUM");
        RootShapes x = made(EVEN, SKEW);
        figure(x, 0, 56, 16, 21, 2, 40, 80, 122, 124, 86, 46, 4);
        figure(x, 1, 48, 8, 21, 3, 21, 60, 101, 123, 105, 66, 25);
        figure(x, 2, 216, 24, 97, 5, 23, 61, 100, 140, 181, 223, 245, 247, 229, 191, 152, 112, 71, 29, 7);
        due("mixed()", x.mixed(), 56);
    }

    private static void sumOfTheWidest() {
        says(6, "SUM of the widest SHAPES");
        figure(made(WIDEST, WIDEST), 2, 288, 48, 121, 0, 240, 252, 12);
        figure(made(EIGHT, EIGHT), 2, 288, 48, 121, 0, 240, 252, 12);
    }

    private static void shapeRefused() {
        says(6, "UNKNOWN: which; OUTSIDE");
        RootShapes x = made(SQUARE, SQUARE);
        for (int n : off(0, 2)) {
            due("which " + n, x.shape(n, 0), -1);
            due("UNKNOWN ahead of OUTSIDE", x.shape(n, 4), -1);
            due("UNKNOWN ahead of STATE", new RootShapes().shape(n, 0), -1);
        }
        for (int n : off(0, 3)) {
            for (int which = 0; which < 3; which++) {
                due("what " + n, x.shape(which, n), -2);
                due("OUTSIDE ahead of STATE", new RootShapes().shape(which, n), -2);
            }
        }
    }

    private static void shapeState() {
        says(6, "STATE: an EQUATION of it has no TERMS");
        for (int what = 0; what < 4; what++) {
            RootShapes first = made(SQUARE, rows());
            due("0 of 0 alone", first.shape(0, what) >= 0 ? 1 : 0, 1);
            due("1 of 0 alone", first.shape(1, what), -3);
            due("SUM of 0 alone", first.shape(2, what), -3);
            RootShapes second = made(rows(), SQUARE);
            due("0 of 1 alone", second.shape(0, what), -3);
            due("1 of 1 alone", second.shape(1, what) >= 0 ? 1 : 0, 1);
            due("SUM of 1 alone", second.shape(2, what), -3);
            due("SUM of none", new RootShapes().shape(2, what), -3);
        }
    }

    private static void cornerUnknown() {
        says(7, "UNKNOWN: which, k");
        RootShapes x = made(SQUARE, rows(t(3, 3, 1)));
        for (int n : off(0, 2)) {
            due("which " + n, x.corner(n, 0), -1);
            due("which, ahead of STATE", new RootShapes().corner(n, 0), -1);
        }
        for (int n : off(0, 3)) {
            due("k " + n, x.corner(0, n), -1);
            due("k " + n + " of SUM", x.corner(2, n), -1);
        }
        for (int n : off(0, 0)) {
            due("k " + n + " of a point", x.corner(1, n), -1);
        }
        RootShapes line = made(rows(), rows(t(0, 0, 1), t(1, 1, 1), t(2, 2, 1)));
        for (int n : off(0, 1)) {
            due("k " + n + " of a line", line.corner(1, n), -1);
        }
    }

    private static void cornerState() {
        says(7, "STATE (ahead of k)");
        RootShapes first = made(SQUARE, rows());
        RootShapes second = made(rows(), SQUARE);
        for (int n : off(0, 3)) {
            due("1 of 0 alone", first.corner(1, n), -3);
            due("SUM of 0 alone", first.corner(2, n), -3);
            due("0 of 1 alone", second.corner(0, n), -3);
            due("SUM of 1 alone", second.corner(2, n), -3);
        }
        due("0 of 0 alone", first.corner(0, 3), 1);
        due("1 of 1 alone", second.corner(1, 3), 1);
        due("k that would fit", first.corner(1, 0), -3);
    }

    private static void mixedOfNoArea() {
        says(8, "MIXED of points and of lines");
        due("points", made(rows(t(0, 0, 1)), rows(t(6, 6, 1))).mixed(), 0);
        due("a point and a line", made(rows(t(3, 3, 1)), rows(t(0, 0, 1), t(6, 5, 1))).mixed(), 0);
        due("a point and a square", made(WIDEST, rows(t(3, 3, 1))).mixed(), 0);
        due("lines along each other", made(rows(t(0, 0, 1), t(6, 3, 1)), rows(t(6, 6, 1), t(2, 4, 1))).mixed(), 0);
        due("lines hardly across", made(rows(t(0, 0, 1), t(5, 6, 1)), rows(t(0, 0, 1), t(4, 5, 1))).mixed(), 1);
        due("lines hardly across", made(rows(t(0, 0, 1), t(4, 5, 1)), rows(t(5, 6, 1), t(0, 0, 1))).mixed(), 1);
    }

    private static void mixedOfTheMost() {
        says(8, "MIXED: AREA of SUM less AREAS of both, as they are told, by 2");
        due("widest", made(WIDEST, WIDEST).mixed(), 72);
        due("widest ways", made(rows(t(0, 0, 1), t(6, 6, 1)), rows(t(6, 0, 1), t(0, 6, 1))).mixed(), 72);
        due("odd AREAS", made(rows(t(0, 0, 1), t(1, 0, 1), t(0, 1, 1)), rows(t(0, 0, 1), t(1, 0, 1), t(0, 1, 1))).mixed(), 1);
        due("one odd AREA", made(rows(t(0, 0, 1), t(1, 0, 1), t(0, 1, 1)), SQUARE).mixed(), 2);
        due("turned about", made(rows(t(0, 0, 1), t(6, 0, 1), t(0, 6, 1)), rows(t(6, 6, 1), t(0, 6, 1), t(6, 0, 1))).mixed(), 72);
    }

    private static void mixedState() {
        says(8, "STATE: an EQUATION has no TERMS");
        due("neither", new RootShapes().mixed(), -3);
        due("0 alone", made(EIGHT, rows()).mixed(), -3);
        due("1 alone", made(rows(), EIGHT).mixed(), -3);
        RootShapes x = made(WIDEST, WIDEST);
        due("both", x.mixed(), 72);
        due("clear(1)", x.clear(1), 4);
        due("after clear", x.mixed(), -3);
    }

    private static void shapesAreOfTheTermsNow() {
        says(6, "a SHAPE is that of the TERMS there are now");
        RootShapes x = made(rows(t(2, 2, 1)), rows(t(0, 0, 1)));
        figure(x, 0, 0, 1, 0, 42);
        due("term", x.term(0, 2, 4, 1), 1);
        figure(x, 0, 0, 3, 0, 42, 44);
        due("term", x.term(0, 4, 2, 1), 2);
        figure(x, 0, 4, 6, 0, 42, 82, 44);
        due("term", x.term(1, 0, 1, 1), 1);
        figure(x, 2, 8, 8, 1, 42, 82, 83, 45);
        due("clear(0)", x.clear(0), 3);
        due("shape(0, 1)", x.shape(0, 1), -3);
        due("term", x.term(0, 6, 6, 1), 0);
        figure(x, 0, 0, 1, 0, 126);
        figure(x, 2, 0, 2, 0, 126, 127);
    }
}
