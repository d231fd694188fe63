import java.math.BigInteger;

/** Each promise of the document by itself: ordinary inputs, the edges that it names, wrong inputs. */
public final class PromiseTests extends Dues {
    private PromiseTests() {
    }

    public static void main(String[] args) {
        newObject();
        term();
        termRefused();
        about();
        change();
        clear();
        shape();
        shapeOnALine();
        shapeOfSum();
        shapeRefused();
        corner();
        cornerRefused();
        mixed();
        lift();
        cells();
        cell();
        fine();
        face();
        lose();
        loseToEveryAim();
        loseByFactors();
        keep();
        keepByOneSide();
        keepAtTheEdge();
        two();
        twoSigns();
        round();
        answer();
        told();
        refusedChangesNothing();
        apart();
        end();
    }

    private static void newObject() {
        promise = 1;
        RootShapes x = new RootShapes();
        due("told(0)", x.told(0), 0);
        due("told(1)", x.told(1), 0);
        due("about(0, 0, 0)", x.about(0, 0, 0), -101);
        due("shape(0, 0)", x.shape(0, 0), -3);
        due("shape(1, 0)", x.shape(1, 0), -3);
        due("shape(2, 0)", x.shape(2, 0), -3);
        due("corner(0, 0)", x.corner(0, 0), -3);
        due("mixed()", x.mixed(), -3);
        due("cells()", x.cells(), 0);
        due("cell(0, 0)", x.cell(0, 0), -1);
        due("fine()", x.fine(), 1);
        due("face(0, 1, 0)", x.face(0, 1, 0), -3);
        due("lose(1, 0)", x.lose(1, 0), -3);
        due("keep()", x.keep(), -3);
        due("two(0)", x.two(0), -1003);
        due("round(31)", x.round(31), 900);
        due("answer(31, 899)", x.answer(31, 899), 3030);
    }

    private static void term() {
        promise = 2;
        RootShapes x = new RootShapes();
        int[][] terms = {{0, 0, 1}, {6, 6, -20}, {0, 6, 20}, {6, 0, -1}, {1, 2, 3}, {2, 1, 3}, {3, 3, 3}, {5, 4, 2}};
        tell(x, 0, terms);
        tell(x, 1, terms);
        for (int n = 0; n < terms.length; n++) {
            for (int what = 0; what < 3; what++) {
                due("about(1, " + n + ", " + what + ")", x.about(1, n, what), terms[n][what]);
            }
            due("about(1, " + n + ", 3)", x.about(1, n, 3), 0);
        }
        due("a ninth", x.term(0, 4, 4, 1), -4);
        due("full, ahead of a point that is there", x.term(0, 0, 0, 1), -4);
        due("full, behind OUTSIDE", x.term(0, 7, 0, 1), -2);
        due("full, behind UNKNOWN", x.term(2, 0, 0, 1), -1);
        due("told(0)", x.told(0), 8);
    }

    private static void termRefused() {
        RootShapes x = new RootShapes();
        for (int equation : new int[] {-1, 2, LEAST, MOST}) {
            due("term of equation " + equation, x.term(equation, 0, 0, 1), -1);
            due("UNKNOWN ahead of OUTSIDE", x.term(equation, 7, 7, 0), -1);
        }
        for (int power : new int[] {-1, 7, LEAST, MOST}) {
            due("i " + power, x.term(0, power, 0, 1), -2);
            due("j " + power, x.term(0, 0, power, 1), -2);
        }
        for (int c : new int[] {0, 21, -21, LEAST, MOST}) {
            due("c " + c, x.term(0, 0, 0, c), -2);
        }
        tell(x, 0, t(1, 2, 5));
        due("its point again", x.term(0, 1, 2, 4), -5);
        due("OUTSIDE ahead of NO", x.term(0, 1, 2, 0), -2);
        due("i alone alike", x.term(0, 1, 3, 4), 1);
        due("j alone alike", x.term(0, 3, 2, 4), 2);
        due("swapped", x.term(0, 2, 1, 4), 3);
        due("the other equation", x.term(1, 1, 2, 4), 0);
        due("c is as before", x.about(0, 0, 2), 5);
    }

    private static void about() {
        promise = 3;
        RootShapes x = made(rows(t(3, 5, -20)), rows(t(6, 0, 7), t(2, 4, -1)));
        due("lift(1, 1, 100)", x.lift(1, 1, 100), 0);
        due("i", x.about(0, 0, 0), 3);
        due("j", x.about(0, 0, 1), 5);
        due("c", x.about(0, 0, 2), -20);
        due("LIFT", x.about(0, 0, 3), 0);
        due("i of 1", x.about(1, 1, 0), 2);
        due("j of 1", x.about(1, 1, 1), 4);
        due("c of 1", x.about(1, 1, 2), -1);
        due("LIFT of 1", x.about(1, 1, 3), 100);
        for (int n : new int[] {-1, 2, LEAST, MOST}) {
            due("equation " + n, x.about(n, 0, 0), -101);
            due("term " + n, x.about(1, n, 0), -101);
            due("UNKNOWN ahead of OUTSIDE", x.about(1, n, 4), -101);
        }
        for (int n : new int[] {-1, 4, LEAST, MOST}) {
            due("what " + n, x.about(0, 0, n), -102);
        }
        due("term of the other equation alone", x.about(0, 1, 0), -101);
        due("both UNKNOWN", x.about(2, 9, 9), -101);
    }

    private static void change() {
        promise = 4;
        RootShapes x = made(rows(t(0, 0, -20), t(1, 0, 3)), rows(t(0, 1, 4)));
        due("change(0, 1, 20)", x.change(0, 1, 20), 3);
        due("change(0, 1, -20)", x.change(0, 1, -20), 20);
        due("change(0, 1, -20)", x.change(0, 1, -20), -20);
        due("c of it", x.about(0, 1, 2), -20);
        due("c of another", x.about(0, 0, 2), -20);
        due("c of the other equation", x.about(1, 0, 2), 4);
        due("its i", x.about(0, 1, 0), 1);
        for (int c : new int[] {0, 21, -21, LEAST, MOST}) {
            due("c " + c, x.change(0, 0, c), -102);
        }
        for (int n : new int[] {-1, 2, LEAST, MOST}) {
            due("equation " + n, x.change(n, 0, 1), -101);
            due("term " + n, x.change(0, n, 1), -101);
            due("UNKNOWN ahead of OUTSIDE", x.change(0, n, 0), -101);
        }
        due("c is as before", x.about(0, 0, 2), -20);
    }

    private static void clear() {
        promise = 5;
        RootShapes x = made(SQUARE, SQUARE);
        due("lift(0, 0, 9)", x.lift(0, 0, 9), 0);
        due("cells()", x.cells() > 0 ? 1 : 0, 1);
        due("round(3)", x.round(3), 3);
        due("clear(0)", x.clear(0), 4);
        due("told(0)", x.told(0), 0);
        due("told(1)", x.told(1), 4);
        due("cells()", x.cells(), 0);
        due("about(0, 0, 0)", x.about(0, 0, 0), -101);
        due("clear(0) again", x.clear(0), 0);
        due("its first term again", x.term(0, 0, 0, 2), 0);
        due("its LIFT", x.about(0, 0, 3), 0);
        due("clear(1)", x.clear(1), 4);
        for (int n : new int[] {-1, 2, LEAST, MOST}) {
            due("clear(" + n + ")", x.clear(n), -1);
        }
        due("told(0)", x.told(0), 1);
    }

    private static void shape() {
        promise = 6;
        RootShapes x = made(WIDEST, rows(t(3, 3, 1), t(0, 0, 1), t(6, 1, 1), t(3, 2, 1), t(2, 6, 1), t(1, 3, 1)));
        figure(x, 0, 72, 24, 25, 0, 120, 126, 6);
        figure(x, 1, 34, 4, 16, 0, 121, 46);
        x = made(rows(t(3, 0, 1), t(0, 3, 1), t(6, 3, 1), t(3, 6, 1), t(3, 3, 1)), rows(t(1, 1, 1), t(1, 0, 1), t(0, 0, 1)));
        figure(x, 0, 36, 12, 13, 3, 60, 123, 66);
        figure(x, 1, 1, 3, 0, 0, 20, 21);
        due("clear(0)", x.clear(0), 5);
        tell(x, 0, t(0, 2, 1), t(0, 4, 1), t(0, 3, 1), t(2, 0, 1), t(4, 0, 1), t(6, 2, 1), t(6, 4, 1), t(4, 6, 1));
        figure(x, 0, 52, 14, 20, 2, 40, 80, 122, 124, 86, 4);
    }

    private static void shapeOnALine() {
        RootShapes x = made(rows(t(3, 3, 1), t(5, 5, 1), t(1, 1, 1)), rows(t(4, 6, 1), t(4, 0, 1), t(4, 1, 1)));
        figure(x, 0, 0, 5, 0, 21, 105);
        figure(x, 1, 0, 7, 0, 80, 86);
        x = made(rows(t(6, 0, 1), t(0, 4, 1)), rows(t(5, 2, 1)));
        figure(x, 0, 0, 3, 0, 4, 120);
        figure(x, 1, 0, 1, 0, 102);
        figure(x, 2, 0, 3, 0, 106, 222);
        x = made(rows(t(2, 4, 1), t(2, 5, 1)), rows(t(0, 0, 1)));
        figure(x, 0, 0, 2, 0, 44, 45);
    }

    private static void shapeOfSum() {
        RootShapes x = made(WIDEST, WIDEST);
        figure(x, 2, 288, 48, 121, 0, 240, 252, 12);
        int[][] inFirst = rows(t(3, 3, 1), t(2, 2, 1), t(2, 3, 1), t(3, 2, 1), t(0, 0, 1), t(6, 0, 1), t(0, 6, 1), t(6, 6, 1));
        x = made(inFirst, inFirst);
        figure(x, 2, 288, 48, 121, 0, 240, 252, 12);
        x = made(SQUARE, rows(t(0, 0, 1), t(2, 1, 1), t(1, 2, 1)));
        figure(x, 2, 13, 7, 4, 0, 20, 61, 62, 43, 23, 1);
        x = made(rows(t(1, 0, 1), t(0, 1, 1)), rows(t(0, 3, 1), t(3, 0, 1)));
        figure(x, 2, 0, 5, 0, 4, 80);
        x = made(rows(t(6, 6, 1)), rows(t(6, 5, 1)));
        figure(x, 2, 0, 1, 0, 251);
        due("clear(1)", x.clear(1), 1);
        due("SUM with no terms in 1", x.shape(2, 0), -3);
        due("shape(0, 1)", x.shape(0, 1), 1);
    }

    private static void shapeRefused() {
        RootShapes x = made(SQUARE, rows());
        for (int n : new int[] {-1, 3, LEAST, MOST}) {
            due("which " + n, x.shape(n, 0), -1);
            due("UNKNOWN ahead of OUTSIDE", x.shape(n, 4), -1);
        }
        for (int n : new int[] {-1, 4, LEAST, MOST}) {
            due("what " + n, x.shape(0, n), -2);
            due("OUTSIDE ahead of STATE", x.shape(1, n), -2);
            due("OUTSIDE ahead of STATE", x.shape(2, n), -2);
        }
        due("shape(1, 0)", x.shape(1, 0), -3);
        due("shape(2, 3)", x.shape(2, 3), -3);
    }

    private static void corner() {
        promise = 7;
        RootShapes x = made(rows(t(2, 6, 1), t(2, 1, 1), t(5, 3, 1), t(2, 4, 1)), rows(t(4, 4, 1), t(0, 2, 1), t(6, 1, 1), t(3, 0, 1)));
        figure(x, 0, 15, 9, 4, 41, 103, 46);
        figure(x, 1, 25, 5, 11, 2, 60, 121, 84);
        figure(x, 2, 106, 14, 47, 43, 101, 162, 224, 187, 130, 48);
    }

    private static void cornerRefused() {
        RootShapes x = made(SQUARE, rows());
        for (int n : new int[] {-1, 3, LEAST, MOST}) {
            due("which " + n, x.corner(n, 0), -1);
        }
        for (int n : new int[] {-1, 4, LEAST, MOST}) {
            due("k " + n, x.corner(0, n), -1);
            due("STATE ahead of k", x.corner(1, n), -3);
            due("STATE ahead of k", x.corner(2, n), -3);
        }
        due("the last", x.corner(0, 3), 1);
    }

    private static void mixed() {
        promise = 8;
        due("widest", made(WIDEST, WIDEST).mixed(), 72);
        due("squares", made(SQUARE, SQUARE).mixed(), 2);
        due("ways across", made(rows(t(0, 0, 1), t(6, 0, 1)), rows(t(3, 0, 1), t(3, 6, 1))).mixed(), 36);
        due("ways along", made(rows(t(0, 0, 1), t(6, 6, 1)), rows(t(3, 3, 1), t(1, 1, 1))).mixed(), 0);
        due("a point and a square", made(rows(t(6, 6, 1)), WIDEST).mixed(), 0);
        due("a way and a square", made(rows(t(0, 0, 1), t(2, 3, 1)), SQUARE).mixed(), 5);
        due("lines of degree 2 and 3", made(rows(t(0, 0, 1), t(2, 0, 1), t(0, 2, 1)), rows(t(0, 0, 1), t(3, 0, 1), t(0, 3, 1))).mixed(), 6);
        due("no terms in 0", made(rows(), SQUARE).mixed(), -3);
        due("no terms in 1", made(SQUARE, rows()).mixed(), -3);
    }

    private static void lift() {
        promise = 9;
        RootShapes x = made(SQUARE, SQUARE);
        due("lift(1, 3, 100)", x.lift(1, 3, 100), 0);
        due("lift(1, 3, 0)", x.lift(1, 3, 0), 100);
        due("lift(1, 3, 7)", x.lift(1, 3, 7), 0);
        due("LIFT of it", x.about(1, 3, 3), 7);
        due("LIFT of another", x.about(1, 2, 3), 0);
        due("LIFT of the other equation", x.about(0, 3, 3), 0);
        for (int v : new int[] {-1, 101, LEAST, MOST}) {
            due("v " + v, x.lift(1, 3, v), -2);
        }
        for (int n : new int[] {-1, 4, LEAST, MOST}) {
            due("equation " + n, x.lift(n, 0, 1), -1);
            due("term " + n, x.lift(0, n, 1), -1);
            due("UNKNOWN ahead of OUTSIDE", x.lift(0, n, 101), -1);
        }
        due("LIFT is as before", x.about(1, 3, 3), 7);
        due("change(1, 3, 2)", x.change(1, 3, 2), 1);
        due("LIFT is as before", x.about(1, 3, 3), 7);
    }

    private static void cells() {
        promise = 10;
        RootShapes x = made(SQUARE, SQUARE);
        due("cells() of no lift", x.cells(), 26);
        due("lift(0, 0, 3)", x.lift(0, 0, 3), 0);
        due("lift(1, 1, 4)", x.lift(1, 1, 4), 0);
        due("cells()", x.cells(), 7);
        due("lift(0, 0, 0)", x.lift(0, 0, 0), 3);
        due("lift(1, 1, 0)", x.lift(1, 1, 0), 4);
        due("cells()", x.cells(), 26);
        due("a term more", x.term(0, 2, 0, 1), 4);
        due("cells()", x.cells(), 45);
        due("clear(1)", x.clear(1), 4);
        due("cells() with no terms in 1", x.cells(), 0);
        tell(x, 1, t(0, 0, 1));
        due("cells() with one term in 1", x.cells(), 0);
        x = made(rows(t(0, 0, 1), t(1, 0, 1), t(2, 0, 1)), rows(t(0, 0, 1), t(0, 1, 1)));
        due("cells()", x.cells(), 3);
        due("lift(0, 1, 1)", x.lift(0, 1, 1), 0);
        due("cells() past the middle", x.cells(), 1);
        due("lift(0, 0, 1)", x.lift(0, 0, 1), 0);
        due("lift(0, 1, 0)", x.lift(0, 1, 0), 1);
        due("cells() by the middle", x.cells(), 2);
        mostCells();
        moreCells();
    }

    /** No lift: every two ways that are not parallel make a cell. */
    private static void moreCells() {
        int[][] one = rows(t(0, 0, 1), t(1, 0, 1), t(3, 1, 1), t(6, 2, 1), t(0, 5, 1), t(2, 6, 1), t(5, 6, 1), t(6, 5, 1));
        int[][] other = rows(t(0, 1, 1), t(1, 3, 1), t(2, 0, 1), t(4, 1, 1), t(6, 6, 1), t(5, 2, 1), t(3, 4, 1), t(0, 6, 1));
        RootShapes x = made(one, other);
        int count = 0;
        for (int abcd = 0; abcd < 4096; abcd++) {
            int[] a = one[abcd >> 9];
            int[] b = one[abcd >> 6 & 7];
            int[] c = other[abcd >> 3 & 7];
            int[] d = other[abcd & 7];
            int across = (b[0] - a[0]) * (d[1] - c[1]) - (b[1] - a[1]) * (d[0] - c[0]);
            if (abcd >> 9 < (abcd >> 6 & 7) && (abcd >> 3 & 7) < (abcd & 7) && across != 0) {
                if (count % 40 == 0) {
                    cellIs(x, count, abcd >> 9, abcd >> 6 & 7, abcd >> 3 & 7, abcd & 7, Math.abs(across));
                }
                count++;
            }
        }
        due("some seven hundred", count > 700 ? 1 : 0, 1);
        due("cells()", x.cells(), count);
    }

    private static void mostCells() {
        int[][] one = rows(t(0, 0, 1), t(1, 0, 1), t(2, 0, 1), t(3, 0, 1), t(4, 0, 1), t(5, 0, 1), t(6, 0, 1));
        int[][] other = rows(t(0, 0, 1), t(0, 1, 1), t(0, 2, 1), t(0, 3, 1), t(0, 4, 1), t(0, 5, 1), t(0, 6, 1));
        RootShapes x = made(one, other);
        due("cells()", x.cells(), 441);
        due("one off the line", x.term(0, 0, 1, 1), 7);
        due("cells()", x.cells(), 21 * 21 + 6 * 21);
        due("one off the other line", x.term(1, 6, 5, 1), 7);
        due("the last, as the next are parallel", x.cell(x.cells() - 1, 2), 5);
        due("SIZE of the last", x.cell(x.cells() - 1, 4), 6);
    }

    private static void cell() {
        promise = 11;
        RootShapes x = made(rows(t(0, 0, 1), t(2, 0, 1), t(0, 3, 1), t(1, 1, 1)), rows(t(0, 0, 1), t(3, 1, 1), t(1, 2, 1)));
        due("lift(0, 1, 5)", x.lift(0, 1, 5), 0);
        due("lift(0, 2, 50)", x.lift(0, 2, 50), 0);
        due("lift(0, 3, 9)", x.lift(0, 3, 9), 0);
        due("lift(1, 1, 20)", x.lift(1, 1, 20), 0);
        due("lift(1, 2, 30)", x.lift(1, 2, 30), 0);
        due("cells()", x.cells(), 3);
        cellIs(x, 0, 1, 3, 0, 1, 4);
        cellIs(x, 1, 2, 3, 0, 2, 4);
        cellIs(x, 2, 2, 3, 1, 2, 3);
        due("fine()", x.fine(), 1);
        due("mixed()", x.mixed(), 11);
        for (int k : new int[] {-1, 3, LEAST, MOST}) {
            due("k " + k, x.cell(k, 0), -1);
            due("UNKNOWN ahead of OUTSIDE", x.cell(k, 5), -1);
        }
        for (int what : new int[] {-1, 5, LEAST, MOST}) {
            due("what " + what, x.cell(0, what), -2);
        }
        x = made(SQUARE, SQUARE);
        cellIs(x, 0, 0, 1, 0, 2, 1);
        cellIs(x, 1, 0, 1, 0, 3, 1);
        cellIs(x, 2, 0, 1, 1, 2, 1);
        cellIs(x, 3, 0, 1, 1, 3, 1);
        cellIs(x, 4, 0, 2, 0, 1, 1);
        cellIs(x, 25, 2, 3, 1, 3, 1);
        due("cell(26, 0)", x.cell(26, 0), -1);
        x = made(rows(t(0, 0, 1), t(6, 0, 1)), rows(t(0, 6, 1), t(0, 0, 1)));
        cellIs(x, 0, 0, 1, 0, 1, 36);
    }

    private static void fine() {
        promise = 12;
        due("no terms", new RootShapes().fine(), 1);
        due("no cells", made(rows(t(0, 0, 1), t(1, 0, 1), t(2, 0, 1)), rows(t(0, 0, 1), t(2, 0, 1))).fine(), 1);
        due("two and two", made(rows(t(0, 0, 1), t(1, 0, 1)), rows(t(0, 0, 1), t(0, 1, 1))).fine(), 1);
        RootShapes x = made(rows(t(0, 0, 1), t(1, 0, 1), t(2, 0, 1)), rows(t(0, 0, 1), t(0, 1, 1)));
        due("three alike in 0", x.fine(), 0);
        due("lift(0, 1, 1)", x.lift(0, 1, 1), 0);
        due("the middle above", x.fine(), 1);
        due("lift(0, 1, 0)", x.lift(0, 1, 0), 1);
        due("lift(0, 2, 1)", x.lift(0, 2, 1), 0);
        due("the middle below", x.fine(), 1);
        x = made(rows(t(0, 0, 1), t(0, 1, 1)), rows(t(0, 0, 1), t(1, 0, 1), t(2, 0, 1)));
        due("three alike in 1", x.fine(), 0);
        due("lift(1, 0, 1)", x.lift(1, 0, 1), 0);
        due("not in 1", x.fine(), 1);
    }

    private static void face() {
        promise = 13;
        RootShapes x = made(SQUARE, rows(t(6, 6, 1), t(6, 0, 1), t(3, 3, 1), t(0, 6, 1), t(5, 1, 1), t(1, 5, 1), t(2, 4, 1), t(4, 2, 1)));
        due("face(0, 1, 0)", x.face(0, 1, 0), 5);
        due("face(0, -1, 0)", x.face(0, -1, 0), 10);
        due("face(0, 0, 1)", x.face(0, 0, 1), 3);
        due("face(0, 0, -1)", x.face(0, 0, -1), 12);
        due("face(0, 6, 6)", x.face(0, 6, 6), 1);
        due("face(0, -6, 6)", x.face(0, -6, 6), 2);
        due("face(0, 6, -6)", x.face(0, 6, -6), 4);
        due("face(0, -6, -6)", x.face(0, -6, -6), 8);
        due("face(1, 1, 1)", x.face(1, 1, 1), 254);
        due("face(1, 5, 5)", x.face(1, 5, 5), 254);
        due("face(1, 2, 1)", x.face(1, 2, 1), 8);
        due("face(1, -1, -1)", x.face(1, -1, -1), 1);
        for (int n : new int[] {-1, 2, LEAST, MOST}) {
            due("equation " + n, x.face(n, 1, 0), -1);
            due("UNKNOWN ahead of OUTSIDE", x.face(n, 0, 0), -1);
        }
        for (int n : new int[] {-7, 7, LEAST, MOST}) {
            due("p " + n, x.face(0, n, 0), -2);
            due("q " + n, x.face(0, 0, n), -2);
        }
        due("face(0, 0, 0)", x.face(0, 0, 0), -2);
        due("clear(1)", x.clear(1), 8);
        due("STATE", x.face(1, 1, 1), -3);
        due("OUTSIDE ahead of STATE", x.face(1, 0, 0), -2);
        due("the other has terms", x.face(0, 1, 1), 1);
    }

    private static void lose() {
        promise = 14;
        RootShapes x = made(SQUARE, SQUARE);
        due("lose(1, 0)", x.lose(1, 0), 1);
        due("lose(-6, 0)", x.lose(-6, 0), 1);
        due("corners alone", x.lose(1, 1), 0);
        for (int n : new int[] {-7, 7, LEAST, MOST}) {
            due("p " + n, x.lose(n, 0), -2);
            due("q " + n, x.lose(0, n), -2);
        }
        due("lose(0, 0)", x.lose(0, 0), -2);
        due("change(1, 0, 2)", x.change(1, 0, 2), 1);
        due("lose(1, 0)", x.lose(1, 0), 0);
        due("lose(-1, 0)", x.lose(-1, 0), 1);
        due("clear(0)", x.clear(0), 4);
        due("STATE", x.lose(1, 0), -3);
        due("OUTSIDE ahead of STATE", x.lose(0, 0), -2);
        x = made(SQUARE, rows());
        due("STATE", x.lose(1, 0), -3);
        x = made(SQUARE, rows(t(4, 4, 1)));
        due("one has one term", x.lose(1, 0), 0);
        x = made(rows(t(0, 0, 1), t(1, 0, 1)), rows(t(0, 0, 1), t(1, 0, 1), t(2, 0, 2)));
        due("no root together", x.lose(0, 1), 0);
    }

    /** All aims along which a line has three points within the powers. */
    private static void loseToEveryAim() {
        for (int p = -6; p <= 6; p++) {
            for (int q = -6; q <= 6; q++) {
                int part = BigInteger.valueOf(p).gcd(BigInteger.valueOf(q)).intValue();
                if (part != 0 && Math.max(Math.abs(p), Math.abs(q)) <= 3 * part) {
                    loseTo(p, q, part);
                }
            }
        }
    }

    private static void loseTo(int p, int q, int part) {
        int wayI = -q / part;
        int wayJ = p / part;
        int i = wayI < 0 ? 6 : 0;
        int j = wayJ < 0 ? 6 : 0;
        String aim = "lose(" + p + ", " + q + ")";
        // 3 - t and 9 - t^2 share t = 3; 3 - t and 1 - 9 t^2 would, if the second were turned about.
        RootShapes x = made(rows(t(i, j, 3), t(i + wayI, j + wayJ, -1)), rows(t(i + 2 * wayI, j + 2 * wayJ, -1), t(i, j, 9)));
        due(aim, x.lose(p, q), 1);
        due("back, " + aim, x.lose(-p, -q), 1);
        due("change", x.change(1, 0, -9), -1);
        due("change", x.change(1, 1, 1), 9);
        due("turned about, " + aim, x.lose(p, q), 0);
        due("change", x.change(0, 0, 1), 3);
        due("change", x.change(0, 1, -3), -1);
        due("both turned about, " + aim, x.lose(p, q), 1);
        due("change", x.change(0, 1, 3), -3);
        due("with the other sign, " + aim, x.lose(p, q), 1);
        due("change", x.change(0, 1, 2), 3);
        due("no more, " + aim, x.lose(p, q), 0);
    }

    private static RootShapes along(int[] one, int[] other) {
        RootShapes x = new RootShapes();
        for (int n = 0; n < one.length; n++) {
            if (one[n] != 0) {
                x.term(0, n, 0, one[n]);
            }
        }
        for (int n = 0; n < other.length; n++) {
            if (other[n] != 0) {
                x.term(1, n, 3, other[n]);
            }
        }
        return x;
    }

    private static int loseAlong(int[] one, int[] other) {
        int there = along(one, other).lose(0, 1);
        due("the other way about", along(other, one).lose(0, 1), there);
        return there;
    }

    /** Roots that are no real numbers count too; gaps, ends off 0 and the highest degrees. */
    private static void loseByFactors() {
        due("1 + t^2 in 1 - t^4", loseAlong(new int[] {1, 0, 1}, new int[] {1, 0, 0, 0, -1}), 1);
        due("1 + t + t^2 in 1 - t^3", loseAlong(new int[] {1, 1, 1}, new int[] {-7, 0, 0, 7}), 1);
        due("1 + t + t^2, 1 - t + t^2", loseAlong(new int[] {1, 1, 1}, new int[] {1, -1, 1}), 0);
        due("1 + t^3 + t^6 in itself", loseAlong(new int[] {20, 0, 0, 20, 0, 0, 20}, new int[] {-3, 0, 0, -3, 0, 0, -3}), 1);
        due("1 + t^3 + t^6, 1 + t^2", loseAlong(new int[] {20, 0, 0, 20, 0, 0, 20}, new int[] {1, 0, 1}), 0);
        due("(1 + t)^6 but one, 1 + t", loseAlong(new int[] {1, 6, 15, 20, 15, 6, 1}, new int[] {1, 1}), 1);
        due("(1 + t)^6, 1 - t", loseAlong(new int[] {1, 6, 15, 20, 15, 6, 1}, new int[] {1, -1}), 0);
        due("near (1 + t)^6, 1 + t", loseAlong(new int[] {1, 6, 15, 20, 15, 6, 2}, new int[] {1, 1}), 0);
        due("(2 + 3 t)(1 - t + t^2), (2 + 3 t)(4 + t)", loseAlong(new int[] {2, 1, -1, 3}, new int[] {8, 14, 3}), 1);
        due("near these", loseAlong(new int[] {2, 1, -1, 3}, new int[] {8, 14, 4}), 0);
        due("ends off 0, a root 0 alone", loseAlong(new int[] {0, 0, 1, 1}, new int[] {0, 1, 2}), 0);
        due("ends off 0, a root together", loseAlong(new int[] {0, 0, 1, 2}, new int[] {0, 0, 0, 0, 3, 6}), 1);
        due("degree 6, big", loseAlong(new int[] {20, -19, 18, -17, 16, -15, 14}, new int[] {20, 19, 18, 17, 16, 15, 14}), 0);
        due("degree 6, near", loseAlong(new int[] {20, -19, 18, -17, 16, -15, 14}, new int[] {20, -19, 18, -17, 16, -15, 13}), 0);
        due("t^6 - 1 and t^4 - 1", loseAlong(new int[] {-1, 0, 0, 0, 0, 0, 1}, new int[] {-1, 0, 0, 0, 1}), 1);
        due("t^6 + 1 and t^4 + 1", loseAlong(new int[] {1, 0, 0, 0, 0, 0, 1}, new int[] {1, 0, 0, 0, 1}), 0);
    }

    private static void keep() {
        promise = 15;
        due("no terms", new RootShapes().keep(), -3);
        due("none in 0", made(rows(), SQUARE).keep(), -3);
        due("none in 1", made(SQUARE, rows()).keep(), -3);
        due("points", made(rows(t(0, 0, 1)), rows(t(6, 6, 1))).keep(), -5);
        due("a point and a line", made(rows(t(0, 0, 1)), rows(t(6, 6, 1), t(1, 2, 1))).keep(), -5);
        due("one line", made(rows(t(0, 0, 1), t(2, 2, 1)), rows(t(6, 6, 1), t(1, 1, 1))).keep(), -5);
        due("two lines", made(rows(t(0, 0, 1), t(2, 2, 1)), rows(t(6, 6, 1), t(1, 2, 1))).keep(), 1);
        due("a point and a square", made(rows(t(0, 0, 1)), SQUARE).keep(), 1);
        due("a line and a square", made(rows(t(0, 0, 1), t(1, 0, 1)), SQUARE).keep(), 0);
        due("another line and a square", made(rows(t(0, 0, 1), t(1, 0, 2)), SQUARE).keep(), 1);
    }

    /** Triangles far and steep, that lose across one side alone: each side, each way about. */
    private static void keepByOneSide() {
        int[][] corners = {{0, 1}, {6, 0}, {5, 6}};
        for (int side = 0; side < 3; side++) {
            RootShapes x = new RootShapes();
            for (int n = 0; n < 3; n++) {
                int[] at = corners[n];
                int[] factor = {3, 5, 7};
                due("term", x.term(0, at[0], at[1], 1), n);
                due("term", x.term(1, at[0], at[1], factor[n]), n);
            }
            due("keep()", x.keep(), 1);
            int next = (side + 1) % 3;
            due("change", x.change(1, next, x.about(1, side, 2)) > 0 ? 1 : 0, 1);
            due("keep() with side " + side, x.keep(), 0);
            due("change", x.change(1, next, 11) > 0 ? 1 : 0, 1);
            due("keep() again", x.keep(), 1);
        }
    }

    /** Sides whose aims have a 6: both equations lose across that way, to one side or to the other. */
    private static void keepAtTheEdge() {
        for (int n = 1; n <= 6; n++) {
            for (int turn = 0; turn < 8; turn++) {
                RootShapes x = new RootShapes();
                for (int e = 0; e < 2; e++) {
                    due("term", placed(x, e, 0, 0, 1, turn), 0);
                    due("term", placed(x, e, n, 6, 2, turn), 1);
                    due("term", placed(x, e, 6, 0, 3 + e, turn), 2);
                }
                due("keep() " + n + ", " + turn, x.keep(), 0);
                due("change", x.change(1, 1, 7), 2);
                due("keep() " + n + ", " + turn, x.keep(), 1);
            }
        }
    }

    private static int placed(RootShapes x, int equation, int i, int j, int c, int turn) {
        int a = (turn & 1) == 0 ? i : 6 - i;
        int b = (turn & 2) == 0 ? j : 6 - j;
        return (turn & 4) == 0 ? x.term(equation, a, b, c) : x.term(equation, b, a, c);
    }

    private static void two() {
        promise = 16;
        RootShapes x = made(rows(t(1, 0, 1), t(2, 3, 1)), rows(t(0, 0, 1), t(5, 1, 1)));
        due("TURN below 0", x.two(0), 1 - 15);
        due("its size is MIXED", x.mixed(), 14);
        for (int n : new int[] {-1, 2, LEAST, MOST}) {
            due("what " + n, x.two(n), -1002);
            due("OUTSIDE ahead of STATE", new RootShapes().two(n), -1002);
        }
        due("TURN of the most", made(rows(t(0, 0, 1), t(6, 6, 1)), rows(t(6, 0, 1), t(0, 6, 1))).two(0), 72);
        due("TURN of the least", made(rows(t(6, 6, 1), t(0, 0, 1)), rows(t(6, 0, 1), t(0, 6, 1))).two(0), -72);
        x = made(rows(t(0, 0, 1), t(2, 4, 1)), rows(t(6, 6, 1), t(5, 4, -1)));
        due("parallel", x.two(0), 0);
        due("parallel", x.two(1), -6);
        int[][] pair = rows(t(0, 0, 1), t(1, 0, 1));
        int[][] three = rows(t(0, 0, 1), t(1, 0, 1), t(0, 1, 1));
        int[][] single = rows(t(0, 0, 1));
        for (int what = 0; what < 2; what++) {
            due("3 and 2", made(three, pair).two(what), -1003);
            due("2 and 3", made(pair, three).two(what), -1003);
            due("1 and 2", made(single, pair).two(what), -1003);
            due("2 and 1", made(pair, single).two(what), -1003);
            due("2 and 0", made(pair, rows()).two(what), -1003);
            due("0 and 2", made(rows(), pair).two(what), -1003);
        }
    }

    private static int real(int i, int j, int c, int k, int l, int d) {
        return made(rows(t(0, 0, -1), t(i, j, c)), rows(t(k, l, d), t(0, 0, -2))).two(1);
    }

    private static void twoSigns() {
        due("x = 1, y = 1", real(1, 0, 1, 0, 1, 1), 1);
        due("x^2 = 1, y = 1", real(2, 0, 1, 0, 1, 1), 2);
        due("x^2 = 1, y^2 = 1", real(2, 0, 1, 0, 2, 1), 4);
        due("x^2 = -1, y^2 = 1", real(2, 0, -1, 0, 2, 1), 0);
        due("x^2 = 1, y^2 = -1", real(2, 0, 1, 0, 2, -1), 0);
        due("x^3 = -1, y^2 = 1", real(3, 0, -1, 0, 2, 1), 2);
        due("x y = 1, x = 1", real(1, 1, 1, 1, 0, 1), 1);
        due("x y = 1, x^3 y = 1", real(1, 1, 1, 3, 1, 1), 2);
        due("x y = 1, x^3 y = -1", real(1, 1, 1, 3, 1, -1), 0);
        due("x y = -1, x^3 y = -1", real(1, 1, -1, 3, 1, -1), 2);
        due("x^2 y = 1, x y^2 = 1", real(2, 1, 1, 1, 2, 1), 1);
        due("like signs at first", made(rows(t(1, 0, 1), t(2, 0, 1)), rows(t(0, 3, -1), t(0, 2, -1))).two(1), 1);
    }

    private static void round() {
        promise = 17;
        RootShapes x = made(rows(t(0, 0, -1), t(2, 0, 1)), rows(t(0, 0, -1), t(0, 3, 1)));
        int[] primes = {2, 3, 5, 7, 11, 13, 17, 19, 23, 29, 31};
        int[] counts = {1, 2, 2, 6, 2, 6, 2, 6, 2, 2, 6};
        for (int n = 0; n < primes.length; n++) {
            due("round(" + primes[n] + ")", x.round(primes[n]), counts[n]);
            due("round again", x.round(primes[n]), counts[n]);
        }
        int at = 0;
        for (int m = -3; m <= 60; m++) {
            if (at < primes.length && m == primes[at]) {
                at++;
            } else {
                due("round(" + m + ")", x.round(m), -2);
            }
        }
        due("round of the least", x.round(LEAST), -2);
        due("round of the most", x.round(MOST), -2);
        x = made(rows(t(6, 5, 1)), rows());
        due("one odd term", x.round(2), 0);
        due("one term", x.round(31), 0);
        due("change(0, 0, 2)", x.change(0, 0, 2), 1);
        due("one even term", x.round(2), 1);
        x = made(rows(t(6, 6, 20), t(0, 0, -10)), rows());
        due("c a multiple of m", x.round(5), 16);
        due("a power that is 1 by m", x.round(7), 0);
        due("change(0, 1, 1)", x.change(0, 1, 1), -10);
        due("after a change", x.round(7), 36);
        due("after a change", x.round(5), 0);
        due("a term more", x.term(1, 1, 0, 1), 0);
        due("after a term more", x.round(7), 0);
        due("one more", x.term(1, 0, 1, -1), 1);
        due("x = y", x.round(7), 6);
        due("clear(1)", x.clear(1), 2);
        due("after clear", x.round(7), 36);
        due("lifts say nothing here", x.lift(0, 0, 50), 0);
        due("after a lift", x.round(7), 36);
    }

    private static void answer() {
        promise = 18;
        RootShapes x = made(rows(t(0, 0, -1), t(2, 0, 1)), rows(t(0, 0, -1), t(0, 3, 1)));
        int[] due7 = {101, 102, 104, 601, 602, 604};
        for (int k = 0; k < due7.length; k++) {
            due("answer(7, " + k + ")", x.answer(7, k), due7[k]);
        }
        due("answer(5, 1)", x.answer(5, 1), 401);
        due("answer(31, 5)", x.answer(31, 5), 3025);
        for (int k : new int[] {-1, 6, LEAST, MOST}) {
            due("answer(7, " + k + ")", x.answer(7, k), -6);
        }
        for (int m : new int[] {-7, -2, 0, 1, 4, 9, 30, 32, 37, LEAST, MOST}) {
            due("answer(" + m + ", 0)", x.answer(m, 0), -2);
            due("OUTSIDE ahead of NONE", x.answer(m, -1), -2);
        }
        due("change(0, 0, 1)", x.change(0, 0, 1), -1);
        due("no square is -1 by 7", x.answer(7, 0), -6);
        due("2 2 is -1 by 5", x.answer(5, 0), 201);
    }

    private static void told() {
        promise = 19;
        RootShapes x = new RootShapes();
        for (int n = 0; n < 7; n++) {
            due("told(0)", x.told(0), n);
            due("term", x.term(0, n, 0, 1), n);
            due("told(1)", x.told(1), 0);
        }
        due("term", x.term(1, 0, 0, 1), 0);
        due("told(0)", x.told(0), 7);
        due("told(1)", x.told(1), 1);
        for (int n : new int[] {-1, 2, LEAST, MOST}) {
            due("told(" + n + ")", x.told(n), -1);
        }
    }

    private static void refusedChangesNothing() {
        promise = 0;
        RootShapes x = made(SQUARE, SQUARE);
        due("term", x.term(0, 1, 1, 5), -5);
        due("term", x.term(0, 7, 1, 5), -2);
        due("term", x.term(0, 2, 1, 0), -2);
        due("change", x.change(0, 0, 21), -102);
        due("lift", x.lift(0, 0, 101), -2);
        due("clear", x.clear(5), -1);
        due("told(0)", x.told(0), 4);
        due("told(1)", x.told(1), 4);
        for (int n = 0; n < 4; n++) {
            for (int what = 0; what < 3; what++) {
                due("about", x.about(0, n, what), SQUARE[n][what]);
            }
            due("about", x.about(0, n, 3), 0);
        }
        due("cells()", x.cells(), 26);
    }

    private static void apart() {
        RootShapes x = made(SQUARE, SQUARE);
        RootShapes y = made(WIDEST, SQUARE);
        due("mixed() of one", x.mixed(), 2);
        due("mixed() of another", y.mixed(), 12);
        due("cells() of one", x.cells(), 26);
        due("clear of another", y.clear(0), 4);
        due("told of one", x.told(0), 4);
    }
}
