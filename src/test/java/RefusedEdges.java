import java.util.ArrayList;
import java.util.List;
import java.util.function.ToIntFunction;

/** What the document says ahead of its first promise: constants, 512 calls, refused calls, their order. */
public final class RefusedEdges extends Dues {
    private RefusedEdges() {
    }

    public static void main(String[] args) {
        constants();
        refusalsAreToldApart();
        firstThatFits();
        refusedChangeNothing();
        askingChangesNothing();
        refusedThenTaken();
        lastOfAllCalls();
        lastOfAllClears();
        lastOfDearCalls();
        anyNumbersAnywhere();
        end();
    }

    private static final int[] ALL_KINDS = {LEAST, -256, -7, -1, 0, 1, 2, 3, 7, 31, 101, 65536, MOST};

    private static void constants() {
        says(0, "UNKNOWN = -1, OUTSIDE = -2, STATE = -3, FULL = -4, NO = -5, NONE = -6");
        due("UNKNOWN", RootShapes.UNKNOWN, -1);
        due("OUTSIDE", RootShapes.OUTSIDE, -2);
        due("STATE", RootShapes.STATE, -3);
        due("FULL", RootShapes.FULL, -4);
        due("NO", RootShapes.NO, -5);
        due("NONE", RootShapes.NONE, -6);
    }

    private static void refusalsAreToldApart() {
        says(0, "What refused calls answer");
        RootShapes x = made(EIGHT, some(2));
        due("term UNKNOWN", x.term(2, 0, 0, 1), RootShapes.UNKNOWN);
        due("term OUTSIDE", x.term(0, 7, 0, 1), RootShapes.OUTSIDE);
        due("term FULL", x.term(0, 4, 4, 1), RootShapes.FULL);
        due("term NO", x.term(1, 0, 0, 1), RootShapes.NO);
        due("shape STATE", new RootShapes().shape(0, 0), RootShapes.STATE);
        due("about UNKNOWN", x.about(0, 8, 0), RootShapes.UNKNOWN - 100);
        due("about OUTSIDE", x.about(0, 7, 4), RootShapes.OUTSIDE - 100);
        due("change UNKNOWN", x.change(0, 8, 1), RootShapes.UNKNOWN - 100);
        due("change OUTSIDE", x.change(0, 7, 0), RootShapes.OUTSIDE - 100);
        due("two OUTSIDE", x.two(2), RootShapes.OUTSIDE - 1000);
        due("two STATE", x.two(0), RootShapes.STATE - 1000);
        due("keep NO", made(some(1), some(1)).keep(), RootShapes.NO);
        due("answer NONE", made(some(1), some(1)).answer(2, 0), RootShapes.NONE);
    }

    private static void firstThatFits() {
        says(0, "the first of these that fits");
        RootShapes none = new RootShapes();
        RootShapes full = made(EIGHT, EIGHT);
        due("term: UNKNOWN, OUTSIDE", full.term(-1, -1, 7, 0), -1);
        due("term: OUTSIDE, FULL, NO", full.term(0, 0, 0, 0), -2);
        due("term: FULL, NO", full.term(0, 0, 0, 1), -4);
        due("about: UNKNOWN, OUTSIDE", none.about(0, 0, 4), -101);
        due("about: UNKNOWN twice, OUTSIDE", full.about(2, 8, 4), -101);
        due("change: UNKNOWN, OUTSIDE", none.change(1, 0, 0), -101);
        due("shape: UNKNOWN, OUTSIDE, STATE", none.shape(3, 4), -1);
        due("shape: OUTSIDE, STATE", none.shape(2, 4), -2);
        due("corner: UNKNOWN which, STATE", none.corner(3, 0), -1);
        due("corner: STATE, UNKNOWN k", none.corner(2, -1), -3);
        due("lift: UNKNOWN, OUTSIDE", none.lift(0, 0, 101), -1);
        due("cell: UNKNOWN, OUTSIDE", none.cell(0, 5), -1);
        due("face: UNKNOWN, OUTSIDE, STATE", none.face(2, 0, 0), -1);
        due("face: OUTSIDE, STATE", none.face(1, 0, 0), -2);
        due("lose: OUTSIDE, STATE", none.lose(0, 0), -2);
        due("keep: STATE, NO", made(some(1), rows()).keep(), -3);
        due("two: OUTSIDE, STATE", none.two(2), -1002);
        due("answer: OUTSIDE, NONE", none.answer(1, -1), -2);
    }

    /** An object in each state that the document tells apart. */
    private static List<RootShapes> states() {
        List<RootShapes> states = new ArrayList<>();
        states.add(new RootShapes());
        states.add(made(some(3), rows()));
        states.add(made(rows(), EIGHT));
        states.add(made(some(1), some(1)));
        states.add(made(rows(t(0, 0, 3), t(1, 2, -5)), rows(t(6, 0, 1), t(0, 6, 2))));
        states.add(made(rows(t(0, 0, 3), t(2, 2, -5)), rows(t(1, 0, 1), t(5, 4, 2), t(2, 1, 1))));
        states.add(made(EIGHT, some(7)));
        RootShapes lifted = made(EIGHT, EIGHT);
        for (int n = 0; n < 8; n++) {
            lifted.lift(0, n, 12 * n);
            lifted.lift(1, n, 100 - 7 * n);
        }
        states.add(lifted);
        return states;
    }

    /** What can be seen of an object, by some three hundred calls. */
    private static String seen(RootShapes x) {
        StringBuilder text = new StringBuilder();
        for (int e = 0; e < 2; e++) {
            see(text, "told", x.told(e));
            for (int n = 0; n < x.told(e); n++) {
                for (int what = 0; what < 4; what++) {
                    see(text, "about", x.about(e, n, what));
                }
            }
            see(text, "face", x.face(e, 1, 0), x.face(e, 0, -1), x.face(e, -2, 3), x.face(e, 1, 1));
        }
        for (int which = 0; which < 3; which++) {
            for (int what = 0; what < 4; what++) {
                see(text, "shape", x.shape(which, what), x.corner(which, what));
            }
        }
        see(text, "mixed", x.mixed(), x.cells(), x.fine(), x.keep(), x.two(0), x.two(1));
        for (int k = 0; k < 6; k++) {
            see(text, "cell", x.cell(k, 0), x.cell(k, 1), x.cell(k, 2), x.cell(k, 3), x.cell(k, 4));
            see(text, "answer", x.answer(3, k), x.answer(31, k));
        }
        see(text, "lose", x.lose(1, 0), x.lose(0, 1), x.lose(-1, 0), x.lose(0, -1), x.lose(1, 1), x.lose(-1, -1));
        see(text, "round", x.round(2), x.round(5), x.round(7), x.round(29));
        return text.toString();
    }

    private static void see(StringBuilder text, String call, int... answers) {
        text.append(call);
        for (int answer : answers) {
            text.append(' ').append(answer);
        }
        text.append('\n');
    }

    /** Calls that are refused in every state. */
    private static List<ToIntFunction<RootShapes>> refused() {
        List<ToIntFunction<RootShapes>> calls = new ArrayList<>();
        for (int n : new int[] {-1, 2, 256, LEAST, MOST}) {
            calls.add(x -> x.term(n, 4, 4, 1));
            calls.add(x -> x.clear(n));
            calls.add(x -> x.change(n, 0, 1));
            calls.add(x -> x.lift(n, 0, 50));
            calls.add(x -> x.two(n));
        }
        for (int e = 0; e < 2; e++) {
            int equation = e;
            for (int n : new int[] {-1, 7, 256, LEAST, MOST}) {
                calls.add(x -> x.term(equation, n, 4, 1));
                calls.add(x -> x.term(equation, 4, n, 1));
            }
            for (int n : new int[] {-21, 0, 21, 256, LEAST, MOST}) {
                calls.add(x -> x.term(equation, 4, 4, n));
                calls.add(x -> x.change(equation, 0, n));
            }
            for (int n : new int[] {-1, 8, 256, LEAST, MOST}) {
                calls.add(x -> x.change(equation, n, 1));
                calls.add(x -> x.lift(equation, n, 50));
            }
            for (int n : new int[] {-1, 101, 256, LEAST, MOST}) {
                calls.add(x -> x.lift(equation, 0, n));
            }
            calls.add(x -> x.told(equation) == 0 ? -1 : x.term(equation, x.about(equation, 0, 0), x.about(equation, 0, 1), 9));
            calls.add(x -> x.told(equation) < 8 ? -1 : x.term(equation, 4, 4, 9));
            calls.add(x -> x.change(equation, x.told(equation), 9));
            calls.add(x -> x.lift(equation, x.told(equation), 9));
        }
        return calls;
    }

    private static void refusedChangeNothing() {
        says(0, "They change nothing.");
        int count = states().size();
        for (int state = 0; state < count; state++) {
            String before = seen(states().get(state));
            for (ToIntFunction<RootShapes> call : refused()) {
                RootShapes x = states().get(state);
                due("a call in state " + state + " is refused", call.applyAsInt(x) < 0 ? 1 : 0, 1);
                due("state " + state + " is as it was", seen(x).equals(before) ? 1 : 0, 1);
            }
        }
    }

    private static void askingChangesNothing() {
        says(0, "calls that ask change nothing, whatever they answer");
        int count = states().size();
        for (int state = 0; state < count; state++) {
            RootShapes x = states().get(state);
            String before = seen(x);
            for (int n : ALL_KINDS) {
                x.about(n, n, n);
                x.shape(n, n);
                x.corner(n, n);
                x.cell(n, n);
                x.face(n, n, n);
                x.lose(n, n);
                x.two(n);
                x.round(n);
                x.answer(n, n);
                x.told(n);
            }
            due("state " + state + " is as it was", seen(x).equals(before) ? 1 : 0, 1);
        }
    }

    private static void refusedThenTaken() {
        says(0, "a refused call leaves room for one that is not");
        RootShapes x = made(some(7), rows());
        due("OUTSIDE", x.term(0, 5, 4, 21), -2);
        due("NO", x.term(0, 3, 3, 20), -5);
        due("the eighth", x.term(0, 5, 4, 20), 7);
        due("FULL", x.term(0, 5, 3, 20), -4);
        due("change OUTSIDE", x.change(0, 7, 21), -102);
        due("change", x.change(0, 7, -20), 20);
        due("lift OUTSIDE", x.lift(0, 7, 101), -2);
        due("lift", x.lift(0, 7, 100), 0);
        due("lift OUTSIDE", x.lift(0, 7, -1), -2);
        due("lift", x.lift(0, 7, 0), 100);
        due("clear UNKNOWN", x.clear(2), -1);
        due("clear", x.clear(0), 8);
    }

    private static void lastOfAllCalls() {
        says(0, "at most 512 calls after it has been made: the last is as the first");
        RootShapes x = new RootShapes();
        for (int call = 1; call <= 512; call += 16) {
            int turn = call / 16;
            due("term", x.term(0, 0, 0, 1), 0);
            due("term", x.term(0, 2, 0, 1 + turn % 20), 1);
            due("term", x.term(1, 0, 0, -1), 0);
            due("term", x.term(1, 1, 3, -1 - turn % 20), 1);
            due("lift", x.lift(0, 1, turn), 0);
            due("cells", x.cells(), 1);
            due("cell", x.cell(0, 4), 6);
            due("mixed", x.mixed(), 6);
            due("shape", x.shape(2, 0), 12);
            due("face", x.face(1, 0, 1), 1);
            due("keep", x.keep(), 1);
            due("two", x.two(0), 6);
            due("change", x.change(0, 1, 20), 1 + turn % 20);
            due("about", x.about(0, 1, 2), 20);
            due("clear", x.clear(0), 2);
            due("clear", x.clear(1), 2);
        }
    }

    private static void lastOfAllClears() {
        says(0, "512 calls: terms told and cleared again and again");
        RootShapes x = new RootShapes();
        for (int turn = 0; turn < 56; turn++) {
            tell(x, turn % 2, EIGHT);
            due("clear", x.clear(turn % 2), 8);
        }
        due("told(0)", x.told(0), 0);
        due("told(1)", x.told(1), 0);
        due("the 507th", x.term(0, 6, 6, 20), 0);
        due("the 508th", x.term(0, 6, 6, 20), -5);
    }

    private static void lastOfDearCalls() {
        says(0, "512 calls: the dearest, each after a change");
        RootShapes x = made(EIGHT, EIGHT);
        int cells = x.cells();
        int answers = x.round(31);
        for (int turn = 0; turn < 49; turn++) {
            due("lift", x.lift(0, 3, 0), turn == 0 ? 0 : 100);
            due("change", x.change(1, 7, 2), turn == 0 ? 2 : -2);
            due("cells", x.cells(), cells);
            due("round", x.round(31), answers);
            due("lift", x.lift(0, 3, 100), 0);
            due("change", x.change(1, 7, -2), 2);
            due("cells, lifted", x.cells() == cells ? 1 : 0, 0);
            due("round", x.round(29) >= 0 ? 1 : 0, 1);
            due("keep", x.keep() >= 0 ? 1 : 0, 1);
            due("mixed", x.mixed(), 72);
        }
    }

    /** A call either answers or the run ends here: nothing may be thrown for any numbers in any state. */
    private static void anyNumbersAnywhere() {
        says(0, "refused calls answer, for any numbers in any state");
        int count = states().size();
        for (int state = 0; state < count; state++) {
            for (int a : ALL_KINDS) {
                for (int b : ALL_KINDS) {
                    RootShapes x = states().get(state);
                    for (int c : ALL_KINDS) {
                        x.term(a, b, c, a);
                        x.term(a, b, c, b);
                        x.about(a, b, c);
                        x.change(a, b, c);
                        x.lift(a, b, c);
                        x.face(a, b, c);
                    }
                    x.shape(a, b);
                    x.corner(a, b);
                    x.cell(a, b);
                    x.lose(a, b);
                    x.answer(a, b);
                    x.round(b);
                    x.two(b);
                    x.clear(b);
                    boolean known = x.told(0) >= 0 && x.told(0) <= 8 && x.told(1) >= 0 && x.told(1) <= 8;
                    due("told", known ? 1 : 0, 1);
                }
            }
        }
    }
}
