import java.util.TreeSet;

/**
 * What the tests of the boundaries share. Each sentence of the document is told ahead of the rows that test it, so that a
 * row that is wrong names the sentence that is broken.
 */
abstract class Bench {
    /** A call, or some, on an object; the answer of the last one counts. */
    interface Call {
        long on(MoveGroups x);
    }

    static final String NO_PUZZLE = null;
    private static final Call NOTHING = x -> 0;

    MoveGroups x = new MoveGroups();
    private final TreeSet<Integer> tested = new TreeSet<>();
    private int promise = 0;
    private String sentence = "";
    private Call given = NOTHING;
    private int rows = 0;
    private int wrong = 0;

    // ---- sentences

    /** The sentence of a promise that the next rows test; promise 0 is for the terms. */
    void says(int promise, String sentence) {
        this.promise = promise;
        this.sentence = sentence;
        given = NOTHING;
        tested.add(promise);
    }

    /** What is done to each object of the next rows, up to the next sentence. */
    void given(Call call) {
        given = call;
    }

    void needPromises(int first, int last) {
        for (int i = first; i <= last; i++) {
            if (!tested.contains(i)) {
                wrong++;
                System.out.println("promise " + i + " has no test here");
            }
        }
    }

    void end() {
        System.out.println(wrong == 0 ? rows + " rows hold" : wrong + " of " + rows + " rows are not as due");
        if (wrong > 0) {
            System.exit(1);
        }
    }

    private void bad(String what) {
        wrong++;
        StackTraceElement[] frames = new Throwable().getStackTrace();
        int depth = 0;
        while (frames[depth].getClassName().equals("Bench")) {
            depth++;
        }
        System.out.println("promise " + promise + ", " + sentence + ": " + what + " (" + frames[depth] + ")");
    }

    // ---- objects

    static void feed(MoveGroups made, String text) {
        for (int i = 0; i < text.length(); i += 20) {
            int[] words = new int[5];
            for (int j = 0; j < 20 && i + j < text.length(); j++) {
                words[j / 4] |= text.charAt(i + j) << 24 - 8 * (j % 4);
            }
            made.feed(words[0], words[1], words[2], words[3], words[4]);
        }
    }

    /** A new object with a puzzle and nothing else. */
    MoveGroups fresh(String puzzle) {
        MoveGroups made = new MoveGroups();
        if (puzzle != NO_PUZZLE) {
            feed(made, puzzle);
            if (made.load(puzzle.length()) < 0) {
                bad("the puzzle has fault " + made.fault(0) + " at " + made.fault(1) + ": " + puzzle);
            }
        }
        return made;
    }

    /** An object of which much could change: two acts to undo, something printed, forty bytes on the tape; it stands at home. */
    private MoveGroups lived(String puzzle) {
        MoveGroups made = fresh(puzzle);
        if (puzzle != NO_PUZZLE) {
            long swapped = swapped(made.many(0));
            made.place(swapped);
            made.home();
            made.print(swapped);
        }
        feed(made, "points 2;move a (0 1);word b a a';");
        given.on(made);
        return made;
    }

    private static long swapped(int points) {
        long number = 10;
        for (int i = 2; i < points; i++) {
            number = 10 * number + i;
        }
        return number;
    }

    /** All that can be seen of an object but its status; the object is used up by it. */
    static String reading(MoveGroups seen) {
        StringBuilder text = new StringBuilder("fault " + seen.fault(0) + " at " + seen.fault(1) + ", points " + seen.many(0));
        readState(seen, text);
        text.append(", out ");
        for (int i = 0; i < 40; i++) {
            int sign = seen.out(i);
            text.append(sign < 0 ? "" : String.valueOf((char) sign));
        }
        for (int left = seen.undo(); left >= 0; left = seen.undo()) {
            text.append(", undone: ").append(left);
            readState(seen, text);
        }
        int length = seen.feed(0, 0, 0, 0, 0);
        text.append(", tape ").append(length).append(" loads ").append(seen.load(Math.max(0, Math.min(34, length))));
        return text.append(" fault ").append(seen.fault(0)).append(" at ").append(seen.fault(1)).toString();
    }

    private static void readState(MoveGroups seen, StringBuilder text) {
        text.append(", stand ").append(seen.stand()).append(" home ").append(seen.many(3)).append(" acts ").append(seen.many(2));
        text.append(" order ").append(seen.order()).append(" moves");
        for (int i = 0; i < seen.many(1); i++) {
            text.append(' ').append(seen.step(2 * i));
        }
    }

    // ---- rows: a call that only asks, or that is refused, leaves the object as it was

    private void row(String puzzle, Call call, long want, int status) {
        rows++;
        MoveGroups asked = lived(puzzle);
        // the call ahead has another status, so that this one's is seen to be its own
        asked.many(status == 0 ? -1 : 0);
        long got = call.on(asked);
        if (got != want || asked.status() != status) {
            bad("answered " + got + " with status " + asked.status() + ", due is " + want + " with status " + status);
        }
        String left = reading(asked);
        String due = reading(lived(puzzle));
        if (!left.equals(due)) {
            bad("left " + left + ", due is " + due);
        }
    }

    /** A call that is due to answer, and to change nothing. */
    void due(String puzzle, Call call, long want) {
        row(puzzle, call, want, 0);
    }

    /** A call that is due to be refused, and to change nothing. */
    void no(String puzzle, Call call, int status) {
        row(puzzle, call, -1, status);
    }

    // ---- rows on the object x, where calls come one behind the other

    void is(long got, long want) {
        rows++;
        if (got != want || x.status() != 0) {
            bad("answered " + got + " with status " + x.status() + ", due is " + want);
        }
    }

    void refused(long got, int status) {
        rows++;
        if (got != -1 || x.status() != status) {
            bad("answered " + got + " with status " + x.status() + ", due is status " + status);
        }
    }

    /** An answer of a call that has no status. */
    void bare(long got, long want) {
        rows++;
        if (got != want) {
            bad("answered " + got + ", due is " + want);
        }
    }

    void alike(String got, String want) {
        rows++;
        if (!got.equals(want)) {
            bad("answered " + got + ", due is " + want);
        }
    }

    void fine(String text, int moves) {
        feed(x, text);
        is(x.load(text.length()), moves);
        bare(x.fault(0), 0);
        bare(x.fault(1), -1);
    }

    void faulty(String text, int kind, int place) {
        feed(x, text);
        refused(x.load(text.length()), 9);
        bare(x.fault(0), kind);
        bare(x.fault(1), place);
    }
}
