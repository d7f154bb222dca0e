import java.util.ArrayList;
import java.util.List;

/** What is kept over calls: acts undone one by one, and answers that are of the moves that are there now. */
public final class StateBoundariesTest extends Bench {
    private static final String SQUARE = "points 4;move r (0 1 2 3);move s (0 2);";
    private static final String SQUARE_AND_SWAP = SQUARE + "move t (0 1);";
    private static final String LINE = "points 4;move s (0 2);";
    private static final String S8 = "points 8;move a (0 1 2 3 4 5 6 7);move b (0 1);";
    private static final String C8 = "points 8;move a (0 1 2 3 4 5 6 7);";
    private static final String SIX_MOVES = "points 3;move a(0 1);move b(1 2);move c(0 2);move d(0 1 2);move e(0 2 1);word f a a;";

    public static void main(String[] args) {
        StateBoundariesTest test = new StateBoundariesTest();
        test.actsOneByOne();
        test.movesOneByOne();
        test.asksBehindChanges();
        test.asksInAnyOrder();
        test.manyCalls();
        test.end();
    }

    // ---- acts

    private String state() {
        StringBuilder text = new StringBuilder().append(x.stand()).append(" of ").append(x.order()).append(" by");
        for (int i = 0; i < x.many(1); i++) {
            text.append(' ').append(x.step(2 * i));
        }
        return text.toString();
    }

    /** All that are kept go back, each to the state that was there ahead of it. */
    private void undoAll(List<String> states) {
        int kept = Math.min(states.size(), 12);
        for (int i = kept - 1; i >= 0; i--) {
            is(x.undo(), i);
            alike(state(), states.get(states.size() - kept + i));
        }
        refused(x.undo(), 5);
    }

    private void actsOneByOne() {
        for (int howMany = 1; howMany <= 16; howMany++) {
            says(59, "12 are kept, of " + howMany + " turns and places");
            x = fresh("points 10;move a (0 1 2 3 4 5 6 7 8 9);");
            List<String> states = new ArrayList<>();
            for (int i = 0; i < howMany; i++) {
                states.add(state());
                if (i % 4 == 2) {
                    is(x.place(9876543210L), 1);
                } else if (i % 4 == 3) {
                    is(x.home(), 10);
                } else {
                    is(x.turn(0), 0);
                }
            }
            undoAll(states);
        }
        says(59, "an ACT that was undone has still put out the oldest of 12");
        x = fresh(SQUARE);
        for (int i = 0; i < 13; i++) {
            is(x.turn(0) < 0 ? 1 : 0, 0);
        }
        is(x.undo(), 11);
        is(x.turn(0), 0);
        is(x.many(2), 12);
    }

    private void movesOneByOne() {
        for (int howMany = 1; howMany <= 16; howMany++) {
            says(59, "12 are kept, of " + howMany + " moves that come and go");
            x = fresh(SIX_MOVES);
            List<String> states = new ArrayList<>();
            for (int i = 0; i < howMany; i++) {
                states.add(state());
                if (i % 7 < 4) {
                    is(x.drop(i % 3) - x.order(), 0);
                } else {
                    is(x.add(i % 2 == 0 ? 102 : 120) - x.order(), 0);
                }
            }
            undoAll(states);
        }
    }

    // ---- questions

    private static List<Call> questions() {
        List<Call> asked = new ArrayList<>(List.of(x -> x.order(), x -> x.orbits(), x -> x.orbit(0), x -> x.base(-1),
                x -> x.base(0), x -> x.level(0), x -> x.level(1), x -> x.member(swapped(x)), x -> x.followed(swapped(x)),
                x -> x.nth(x.order() - 1), x -> x.rank(swapped(x)), x -> x.way(swapped(x), -1), x -> x.way(x.nth(x.order() - 1), 0)));
        asked.addAll(List.<Call>of(x -> x.deep(1), x -> x.deep(2), x -> x.deepest(0), x -> x.deepest(1), x -> x.mean(0),
                x -> x.mean(1), x -> x.nearer(), x -> x.solve(-1), x -> x.solve(0), x -> x.centre(-1), x -> x.centre(1),
                x -> x.classes(), x -> x.alike(x.step(0)), x -> x.same(x.step(0), x.nth(x.order() - 1))));
        asked.addAll(List.<Call>of(x -> x.derived(0), x -> x.derived(1), x -> x.derived(2), x -> x.central(1), x -> x.central(2),
                x -> x.has(0), x -> x.has(1), x -> x.has(2), x -> x.has(3), x -> x.by(1), x -> x.by(2), x -> x.by(3),
                x -> x.meet(1, 2), x -> x.meet(1, 3), x -> x.normal(1), x -> x.normal(2), x -> x.spare(), x -> x.fewest()));
        asked.addAll(List.<Call>of(x -> x.holds(1), x -> x.holds(5), x -> x.keeps(1), x -> x.keeps(5), x -> x.brings(1, 2),
                x -> x.brings(1, 4), x -> x.block(0, 1), x -> x.block(0, 2), x -> x.anywhere(), x -> x.fixing(0), x -> x.fixing(2),
                x -> x.colours(2), x -> x.typed(swapped(x)), x -> x.root(home(x), 2), x -> x.root(swapped(x), 1),
                x -> x.slightest(), x -> x.ofOrder(2), x -> x.ofOrder(4)));
        return asked;
    }

    private static long home(MoveGroups x) {
        return x.many(0) == 8 ? 1234567 : 123;
    }

    private static long swapped(MoveGroups x) {
        return x.many(0) == 8 ? 10234567 : 1023;
    }

    private static String answer(MoveGroups x, Call question) {
        return question.on(x) + " with status " + x.status();
    }

    private static List<String> answers(MoveGroups x) {
        List<String> all = new ArrayList<>();
        for (Call question : questions()) {
            all.add(answer(x, question));
        }
        return all;
    }

    private static void askAll(MoveGroups x) {
        for (Call question : questions()) {
            question.on(x);
        }
    }

    /** All is asked, the moves change, all is asked again: as of a new object with the moves that are there then. */
    private void behind(String sentence, String puzzle, Call change, String then) {
        says(0, sentence);
        x = fresh(puzzle);
        askAll(x);
        change.on(x);
        alike(answers(x).toString(), answers(fresh(then)).toString());
    }

    private void asksBehindChanges() {
        behind("behind add()", SQUARE, x -> x.add(1023), SQUARE_AND_SWAP);
        behind("behind add() of what is there", SQUARE, x -> x.add(2103), SQUARE + "move t (0 2);");
        behind("behind drop()", SQUARE, x -> x.drop(0), LINE);
        behind("behind drop() of the last", SQUARE_AND_SWAP, x -> x.drop(2), SQUARE);
        behind("behind drop() of all", SQUARE, x -> x.drop(0) + x.drop(0), "points 4;");
        behind("behind undo() of add()", SQUARE_AND_SWAP, x -> x.add(123) + x.undo(), SQUARE_AND_SWAP);
        behind("behind undo() of drop()", SQUARE_AND_SWAP, x -> x.drop(2) + x.classes() + x.undo(), SQUARE_AND_SWAP);
        behind("behind undo() of turn()", SQUARE_AND_SWAP, x -> x.turn(0) + x.nearer() + x.undo(), SQUARE_AND_SWAP);
        behind("behind load()", SQUARE, x -> loadOf(x, LINE), LINE);
        behind("behind load() of more POINTS", SQUARE, x -> loadOf(x, C8), C8);
        behind("behind load() of fewer POINTS", C8, x -> loadOf(x, SQUARE), SQUARE);
        behind("behind load() with 9", SQUARE, x -> loadOf(x, "points 8;move a (8);"), SQUARE);
        behind("from above 5,040 to below", S8, x -> x.drop(1), C8);
        behind("from below 5,040 to above", C8, x -> x.add(10234567), S8);
        behind("to above 5,040 and back", C8, x -> x.add(10234567) + x.classes() + x.undo(), C8);
        behind("to no POINTS", SQUARE, x -> loadOf(x, ""), " ");
    }

    private static long loadOf(MoveGroups x, String text) {
        feed(x, text);
        return x.load(text.length());
    }

    private void asksInAnyOrder() {
        says(0, "a call that asks changes nothing for the next one");
        List<Call> all = questions();
        List<String> alone = new ArrayList<>();
        for (Call question : all) {
            alone.add(answer(fresh(SQUARE), question));
        }
        for (Call first : all) {
            for (int i = 0; i < all.size(); i++) {
                x = fresh(SQUARE);
                first.on(x);
                alike(answer(x, all.get(i)), alone.get(i));
            }
        }
    }

    private void manyCalls() {
        says(0, "An object is used for at most 512 calls");
        x = new MoveGroups();
        feed(x, SQUARE);
        is(x.load(SQUARE.length()), 2);
        for (int i = 3; i < 510; i++) {
            x.turn(i % 4);
        }
        is(x.many(2), 12);
        is(x.order(), 8);
    }
}
