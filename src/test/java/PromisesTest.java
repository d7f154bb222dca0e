import java.util.ArrayList;
import java.util.List;

/** Each promise of the document by hand: ordinary calls, the edges that it names, and wrong ones with their status. */
public final class PromisesTest {
    private static final String S3 = "points 3;move a (0 1 2);move b (0 1);";
    private static final String SQUARE = "points 4;move r (0 1 2 3);move s (0 2);";
    private static final String A5 = "points 5;move a (0 1 2 3 4);move b (0 1 2);";
    private static final String SIX = "points 5;move a (0 1 2)(3 4);word c a a';word d a a;";
    private static final String S7 = "points 7;move a (0 1 2 3 4 5 6);move b (0 1);";
    private static final String S8 = "points 8;move a (0 1 2 3 4 5 6 7);move b (0 1);";
    private static final String S10 = "points 10;move a (0 1 2 3 4 5 6 7 8 9);move b (0 1);";
    private static final String PAIRS = "points 10;move t (0 1);move c (0 2 4 6 8)(1 3 5 7 9);move s (0 2)(1 3);";
    private static final String FANO = "points 7;move a (0 1 2 3 4 5 6);move b (1 2)(3 6);";

    private int wrong = 0;
    private int promise = 0;
    private MoveGroups x = new MoveGroups();

    public static void main(String[] args) {
        PromisesTest test = new PromisesTest();
        test.text();
        test.arrangements();
        test.orbitsAndOrder();
        test.words();
        test.centreAndClasses();
        test.parts();
        test.counted();
        test.acts();
        test.withoutPoints();
        System.out.println(test.wrong == 0 ? "all promises hold" : test.wrong + " answers are not as due");
        if (test.wrong > 0) {
            System.exit(1);
        }
    }

    // ---- how a row is told

    private void promise(int number, String puzzle) {
        promise = number;
        x = puzzled(puzzle);
    }

    private MoveGroups puzzled(String puzzle) {
        MoveGroups made = new MoveGroups();
        feed(made, puzzle);
        if (made.load(puzzle.length()) < 0) {
            bad("puzzle has fault " + made.fault(0) + " at " + made.fault(1) + ": " + puzzle);
        }
        return made;
    }

    private static void feed(MoveGroups made, String text) {
        for (int i = 0; i < text.length(); i += 20) {
            int[] words = new int[5];
            for (int j = 0; j < 20 && i + j < text.length(); j++) {
                words[j / 4] |= text.charAt(i + j) << 24 - 8 * (j % 4);
            }
            made.feed(words[0], words[1], words[2], words[3], words[4]);
        }
    }

    private void bad(String what) {
        wrong++;
        System.out.println("promise " + promise + ": " + what + " (" + new Throwable().getStackTrace()[2] + ")");
    }

    /** A call that is due to answer and to have status 0. */
    private void due(long got, long want) {
        if (got != want || x.status() != 0) {
            bad("answered " + got + " with status " + x.status() + ", due is " + want);
        }
    }

    /** A call that is due to be refused. */
    private void no(long got, int status) {
        if (got != -1 || x.status() != status) {
            bad("answered " + got + " with status " + x.status() + ", due is status " + status);
        }
    }

    /** An answer of a call that has no status. */
    private void bare(long got, long want) {
        if (got != want) {
            bad("answered " + got + ", due is " + want);
        }
    }

    private void faulty(String text, int kind, int place) {
        feed(x, text);
        no(x.load(text.length()), 9);
        bare(x.fault(0), kind);
        bare(x.fault(1), place);
    }

    private void fine(String text, int moves) {
        feed(x, text);
        due(x.load(text.length()), moves);
        bare(x.fault(0), 0);
        bare(x.fault(1), -1);
    }

    // ---- promises 1 to 6 and the text

    private void text() {
        promise = 1;
        x = new MoveGroups();
        bare(x.status(), 0);
        due(x.many(0), 0);

        promise = 2;
        no(x.many(9), 1);
        bare(x.feed(0, 0, 0, 0, 0), 20);
        bare(x.fault(0), -1);
        bare(x.status(), 1);
        bare(x.status(), 1);
        due(x.many(3), 1);

        promise = 3;
        x = new MoveGroups();
        for (int i = 1; i <= 20; i++) {
            bare(x.feed(-1, -1, -1, -1, -1), 20 * i);
        }
        bare(x.feed(0, 0, 0, 0, 0), -1);
        no(x.load(400), 9);
        bare(x.fault(0), 1);
        bare(x.fault(1), 0);
        bare(x.feed(0x706f696e, 0x74732033, 0x3b000000, 0, 0), 20);
        due(x.load(9), 0);
        due(x.many(0), 3);

        promise(4, S3);
        due(x.turn(0), 0);
        no(x.load(1), 1);
        bare(x.feed(0, 0, 0, 0, 0), 20);
        no(x.load(-1), 1);
        no(x.load(21), 1);
        bare(x.feed(0, 0, 0, 0, 0), 40);
        no(x.load(1), 9);
        bare(x.feed(0, 0, 0, 0, 0), 20);
        due(x.stand(), 120);
        due(x.many(2), 1);
        no(x.load(5), 9);
        fine(SQUARE, 2);
        due(x.stand(), 123);
        due(x.many(2), 0);
        fine("", 0);
        due(x.many(0), 0);
        fine(" \n ", 0);
        no(x.order(), 5);

        promise = 5;
        x = new MoveGroups();
        bare(x.fault(0), -1);
        bare(x.fault(1), -1);
        faulty("points", 2, 6);
        no(x.load(1), 1);
        bare(x.fault(0), 2);
        bare(x.fault(1), 6);
        bare(x.fault(2), -1);
        bare(x.fault(-1), -1);
        texts();
        faults();

        promise(6, SQUARE);
        due(x.many(0), 4);
        due(x.many(1), 2);
        due(x.many(2), 0);
        due(x.many(3), 1);
        due(x.turn(0), 0);
        due(x.many(2), 1);
        due(x.many(3), 0);
        due(x.turn(1), 4);
        due(x.many(3), 1);
        no(x.many(4), 1);
        no(x.many(-1), 1);
    }

    private void texts() {
        x = new MoveGroups();
        fine("points 10;move a(9 0)(8);word b a'a a';", 2);
        due(x.step(2), 9123456780L);
        fine("points\n03 ; move abcdefgh ( 00 01 ) ;", 1);
        due(x.step(0), 102);
        fine("points2;move a(0 1);move m(0)(1);word w a m' a'a;", 3);
        due(x.step(4), 10);
        fine("points 3;move a(0 1);move b(1 2);word c a b;word d c' a;word e d c;word f e;", 6);
        due(x.step(4), 201);
        due(x.step(6), 21);
        due(x.step(8), 210);
        due(x.step(10), 210);
    }

    private void faults() {
        x = new MoveGroups();
        faulty("Points 3;", 1, 0);
        faulty("points\t3;", 1, 6);
        faulty("points 3;move abcdefghi (0 1);", 1, 14);
        faulty("points 3;move a (0 001);", 1, 19);
        faulty("points 3;move a (0 1);\r", 1, 22);
        faulty("points 3;move a (0 1);word b a\u00e9;", 1, 30);
        faulty("move a (0 1);", 2, 0);
        faulty(";", 2, 0);
        faulty("points ;", 2, 7);
        faulty("points 3", 2, 8);
        faulty("points 3 3;", 2, 9);
        faulty("points 3;points 3;", 2, 9);
        faulty("points 3;;", 2, 9);
        faulty("points 3;turn a (0 1);", 2, 9);
        faulty("points 3;move 1 (0 1);", 2, 14);
        faulty("points 3;move move (0 1);", 2, 14);
        faulty("points 3;move points (0 1);", 2, 14);
        faulty("points 3;move a 0 1;", 2, 16);
        faulty("points 3;move a ();", 2, 17);
        faulty("points 3;move a (0 1;", 2, 20);
        faulty("points 3;move a (0 1)", 2, 21);
        faulty("points 3;move a (0 1)';", 2, 21);
        faulty("points 3;move a (0 1)\n \n", 2, 24);
        faulty("points 3;move a (0 1);word b;", 2, 28);
        faulty("points 3;move a (0 1);word b 'a;", 2, 29);
        faulty("points 3;move a (0 1);word b a'';", 2, 31);
        faulty("points 3;move a (0 1);word b a word;", 2, 31);
        faulty("points 3;move a (0 1);word b a", 2, 30);
        faulty("points 0;", 3, 7);
        faulty("points 11;", 3, 7);
        faulty("points 3;move a (0 3);", 3, 19);
        faulty("points 10;move a (10);", 3, 18);
        faulty("points 3;move a (0 1)(1 2);", 4, 22);
        faulty("points 3;move a (0 0);", 4, 19);
        faulty("points 3;move a (0 1);move a (1 2);", 4, 27);
        faulty("points 3;move a (0 1);word a a;", 4, 27);
        faulty("points 3;word b a;", 4, 16);
        faulty("points 3;move a (0 1);word b b;", 4, 29);
        faulty("points 3;move a (0 1);word b a ab;", 4, 31);
        faulty("points 2;move a(0);move b(0);move c(0);move d(0);move e(0);word f a;word g", 5, 68);
        faulty("points 2;move a(0);move b(0);move c(0);move d(0);move e(0);word f a;move", 5, 68);
        faulty("points 2;move a(0);move b(0);move c(0);move d(0);move e(0);word f a;points", 2, 68);
    }

    // ---- promises 7 to 13

    private void arrangements() {
        promise(7, SQUARE);
        due(x.step(0), 1230);
        due(x.step(1), 3012);
        due(x.step(2), 2103);
        due(x.step(3), 2103);
        no(x.step(4), 2);
        no(x.step(-1), 2);

        promise(8, SQUARE);
        due(x.stand(), 123);
        due(x.turn(0), 0);
        due(x.turn(2), 0);
        due(x.stand(), 1032);

        promise(9, S10);
        due(x.takes(9876543210L, 0), 9);
        due(x.takes(123456789L, 9), 9);
        no(x.takes(9876543210L, 10), 2);
        no(x.takes(9876543210L, -1), 2);
        no(x.takes(9876543211L, 10), 1);

        promise(10, S3);
        due(x.product(120, 102), 21);
        due(x.product(102, 120), 210);
        due(x.product(12, 210), 210);
        no(x.product(120, 103), 1);
        no(x.product(112, 120), 1);
        no(x.product(-12, 120), 1);
        no(x.product(1012, 120), 1);

        promise(11, SQUARE);
        due(x.inverse(1230), 3012);
        due(x.inverse(123), 123);
        no(x.inverse(1234), 1);
        no(x.inverse(Long.MIN_VALUE), 1);
        no(x.inverse(Long.MAX_VALUE), 1);

        promise(12, SIX);
        due(x.power(12043, 0), 1234);
        due(x.power(12043, 1), 12043);
        due(x.power(12043, 2), 20134);
        due(x.power(12043, -1), 20143);
        due(x.power(12043, 1000), 12034);
        due(x.power(12043, -1000), 20134);
        no(x.power(12043, 1001), 1);
        no(x.power(12043, -1001), 1);
        no(x.power(12044, 1), 1);

        promise(13, SIX);
        due(x.about(12043, 0), 6);
        due(x.about(12043, 1), 2);
        due(x.about(12043, 2), 0);
        due(x.about(12043, 3), 0);
        due(x.about(12043, 4), 31);
        due(x.about(1234, 0), 1);
        due(x.about(1234, 1), 5);
        due(x.about(1234, 2), 5);
        due(x.about(1234, 3), 1);
        due(x.about(1234, 4), 0);
        due(x.about(1243, 4), 24);
        no(x.about(12043, 5), 1);
        no(x.about(12043, -1), 1);
        no(x.about(12042, 0), 1);
        x = puzzled(S10);
        due(x.about(1204567893L, 0), 21);
        due(x.about(1204356798L, 0), 6);
        due(x.about(1204356798L, 1), 6);
    }

    // ---- promises 14 to 22

    private void orbitsAndOrder() {
        promise(14, SIX);
        due(x.orbit(0), 7);
        due(x.orbit(4), 24);
        no(x.orbit(5), 2);
        no(x.orbit(-1), 2);

        promise(15, SIX);
        due(x.orbits(), 2);
        x = puzzled("points 9;move a (3 5);");
        due(x.orbits(), 8);

        promise(16, "points 6;move a (1 3)(2 4);move b (2 4);");
        due(x.base(-1), 2);
        due(x.base(0), 1);
        due(x.base(1), 2);
        no(x.base(2), 5);
        no(x.base(-2), 1);
        x = puzzled("points 6;");
        due(x.base(-1), 0);
        no(x.base(0), 5);

        promise(17, "points 6;move a (1 3)(2 4);move b (2 4);");
        due(x.level(0), 10);
        due(x.level(1), 20);
        no(x.level(2), 5);
        no(x.level(-1), 1);
        x = puzzled(SQUARE);
        due(x.level(0), 15);
        due(x.level(1), 10);

        promise(18, S10);
        due(x.order(), 3628800);
        x = puzzled(PAIRS);
        due(x.order(), 3840);
        x = puzzled(FANO);
        due(x.order(), 168);
        x = puzzled("points 2;");
        due(x.order(), 1);

        promise(19, A5);
        due(x.member(12034), 1);
        due(x.member(10234), 0);
        due(x.member(1234), 1);
        no(x.member(11234), 1);
        x = puzzled(S10);
        due(x.member(9876543210L), 1);

        promise(20, A5);
        due(x.followed(12034), 5);
        due(x.followed(10234), 3);
        x = puzzled("points 5;move a (1 2);");
        due(x.followed(10234), 0);
        due(x.followed(2134), 5);
        due(x.followed(3214), 1);
        due(x.followed(1243), 3);
        no(x.followed(1), 1);

        promise(21, SQUARE);
        due(x.nth(0), 123);
        due(x.nth(1), 321);
        due(x.nth(2), 1032);
        due(x.nth(7), 3210);
        no(x.nth(8), 5);
        no(x.nth(-1), 1);
        x = puzzled(S10);
        due(x.nth(3628799), 9876543210L);
        due(x.nth(362880), 1023456789L);
        no(x.nth(3628800), 5);

        promise(22, SQUARE);
        for (int i = 0; i < 8; i++) {
            due(x.rank(x.nth(i)), i);
        }
        no(x.rank(132), 6);
        no(x.rank(4), 1);
        x = puzzled(S10);
        due(x.rank(9876543210L), 3628799);
        due(x.rank(1023456789L), 362880);
    }

    // ---- promises 23 to 28

    private void words() {
        promise(23, S3);
        due(x.way(12, -1), 0);
        due(x.way(21, -1), 2);
        due(x.way(21, 0), 0);
        due(x.way(21, 1), 2);
        due(x.way(102, 0), 2);
        no(x.way(21, 2), 5);
        no(x.way(12, 0), 5);
        no(x.way(21, -2), 1);
        no(x.way(22, 0), 1);
        x = puzzled(SQUARE);
        no(x.way(132, 9), 6);
        x = puzzled("points 4;move a (0 1);move b (2 3);");
        due(x.way(1032, -1), 2);
        due(x.way(1032, 0), 0);
        due(x.way(1032, 1), 2);
        x = puzzled(S8);
        no(x.way(1234567, -1), 3);
        no(x.way(1234568, -1), 1);
        x = puzzled(S7);
        long turn = x.nth(3777);
        long made = 123456;
        int length = x.way(turn, -1);
        for (int i = 0; i < length; i++) {
            made = x.product(made, x.step(x.way(turn, i)));
        }
        due(made, turn);

        promise(24, S3);
        due(x.deep(0), 1);
        due(x.deep(1), 3);
        due(x.deep(2), 2);
        no(x.deep(3), 5);
        no(x.deep(-1), 1);
        x = puzzled(S8);
        no(x.deep(0), 3);
        no(x.deep(-1), 1);

        promise(25, "points 9;move a (0 1 2 3 4 5 6 7 8);");
        due(x.deepest(0), 4);
        due(x.deepest(1), 4);
        no(x.deepest(2), 1);
        no(x.deepest(-1), 1);
        x = puzzled(S8);
        no(x.deepest(0), 3);

        promise(26, SQUARE);
        due(x.mean(0), 3);
        due(x.mean(1), 2);
        x = puzzled("points 5;");
        due(x.mean(0), 0);
        due(x.mean(1), 1);
        no(x.mean(2), 1);
        no(x.mean(-1), 1);
        x = puzzled("points 4;move a (0 1 2 3);");
        due(x.mean(0), 1);
        due(x.mean(1), 1);
        x = puzzled(S8);
        no(x.mean(0), 3);

        promise(27, SQUARE);
        due(x.nearer(), 0);
        due(x.turn(0), 0);
        due(x.nearer(), 2);
        due(x.turn(0), 0);
        due(x.nearer(), 3);
        due(x.home(), 4);
        due(x.turn(2), 2);
        due(x.nearer(), 12);
        due(x.place(132), 2);
        no(x.nearer(), 6);
        x = puzzled(S8);
        no(x.nearer(), 3);

        promise(28, SQUARE);
        due(x.solve(-1), 0);
        no(x.solve(0), 5);
        due(x.turn(0), 0);
        due(x.turn(2), 0);
        due(x.solve(-1), 2);
        due(x.solve(0), 0);
        due(x.solve(1), 2);
        no(x.solve(2), 5);
        no(x.solve(-2), 1);
        due(x.place(132), 2);
        no(x.solve(0), 6);
        no(x.solve(-1), 6);
        x = puzzled(S8);
        no(x.solve(-1), 3);
    }

    // ---- promises 29 to 37

    private void centreAndClasses() {
        promise(29, SQUARE);
        due(x.centre(-1), 2);
        due(x.centre(0), 0);
        due(x.nth(x.centre(1)), 2301);
        no(x.centre(2), 5);
        no(x.centre(-2), 1);
        x = puzzled(S8);
        no(x.centre(-1), 3);

        promise(30, SQUARE);
        due(x.classes(), 5);
        x = puzzled(A5);
        due(x.classes(), 5);
        x = puzzled(S7);
        due(x.classes(), 15);
        x = puzzled(S8);
        no(x.classes(), 3);

        promise(31, A5);
        due(x.alike(12340), 12);
        due(x.alike(12034), 20);
        due(x.alike(1234), 1);
        no(x.alike(10234), 6);
        no(x.alike(0), 1);
        x = puzzled(S8);
        no(x.alike(1234567), 3);

        promise(32, S8);
        due(x.derived(0), 40320);
        due(x.derived(1), 20160);
        no(x.derived(2), 5);
        no(x.derived(-1), 1);
        x = puzzled("points 4;move a (0 1 2 3);move b (0 1);");
        due(x.derived(0), 24);
        due(x.derived(1), 12);
        due(x.derived(2), 4);
        due(x.derived(3), 1);
        no(x.derived(4), 5);
        no(x.derived(1000000), 5);

        promise(33, SQUARE);
        due(x.has(0), 0);
        due(x.has(1), 1);
        due(x.has(2), 0);
        due(x.has(3), 0);
        no(x.has(4), 1);
        no(x.has(-1), 1);
        x = puzzled(A5);
        due(x.has(0), 0);
        due(x.has(1), 0);
        due(x.has(2), 1);
        due(x.has(3), 1);
        x = puzzled("points 5;move a (0 1 2 3 4);");
        due(x.has(0), 1);
        due(x.has(3), 1);
        x = puzzled("points 6;move a (0 1 2 3 4);");
        due(x.has(3), 0);
        x = puzzled("points 2;move a (0 1);");
        due(x.has(3), 1);

        promise(34, S3);
        due(x.commutator(120, 102), 120);
        due(x.commutator(102, 120), 201);
        due(x.commutator(120, 120), 12);
        no(x.commutator(120, 12345), 1);
        no(x.commutator(-1, 120), 1);

        promise(35, SQUARE);
        due(x.turned(2103, 1230), 321);
        due(x.turned(1023, 1230), 213);
        no(x.turned(1230, 1), 1);
        no(x.turned(1, 1230), 1);

        promise(36, A5);
        due(x.same(12340, 34012), 0);
        due(x.same(12340, 40123), 1);
        due(x.same(12340, 23401), 0);
        no(x.same(12340, 10234), 6);
        no(x.same(10234, 12340), 6);
        no(x.same(10234, 99999), 1);
        x = puzzled(S8);
        no(x.same(1234567, 1234567), 3);

        promise(37, "points 8;move a (0 1 2 3 4 5 6 7);move b (1 7)(2 6)(3 5);");
        due(x.central(0), 16);
        due(x.central(1), 4);
        due(x.central(2), 2);
        due(x.central(3), 1);
        no(x.central(4), 5);
        no(x.central(-1), 1);
        x = puzzled(S10);
        due(x.central(1), 1814400);
        no(x.central(2), 5);
    }

    // ---- promises 38 to 47

    private void parts() {
        promise(38, PAIRS);
        due(x.by(0), 1);
        due(x.by(1), 2);
        due(x.by(2), 5);
        due(x.by(3), 160);
        due(x.by(6), 120);
        due(x.by(7), 3840);
        no(x.by(8), 2);
        no(x.by(-1), 2);

        promise(39, PAIRS);
        due(x.meet(3, 6), 5);
        due(x.meet(0, 7), 1);
        due(x.meet(7, 7), 3840);
        due(x.meet(1, 3), 2);
        no(x.meet(8, 1), 2);
        no(x.meet(1, -8), 2);
        x = puzzled(S8);
        no(x.meet(1, 2), 3);
        no(x.meet(1, 4), 2);

        promise(40, "points 4;move a (0 1)(2 3);move b (0 2)(1 3);move c (0 1 2);");
        due(x.normal(3), 1);
        due(x.normal(1), 0);
        due(x.normal(0), 1);
        due(x.normal(7), 1);
        due(x.normal(4), 0);
        no(x.normal(8), 2);

        promise(41, SIX);
        due(x.spare(), 6);
        x = puzzled(S3);
        due(x.spare(), 0);
        x = puzzled("points 3;move a (0 1);move b (0 1);move c (2);");
        due(x.spare(), 7);

        promise(42, SIX);
        due(x.fewest(), 1);
        x = puzzled("points 3;move a (0 1);move b (0 1);move c (2);move d (0 1 2);");
        due(x.fewest(), 9);
        x = puzzled("points 3;move c (2);");
        due(x.fewest(), 0);
        x = puzzled("points 10;move a (0 1);move b (2 3);move c (4 5);move d (6 7);move e (8 9);word f a b c d e;");
        due(x.fewest(), 31);
        due(x.spare(), 63);

        promise(43, S8);
        due(x.holds(15), 24);
        due(x.holds(0xf0), 24);
        due(x.holds(255), 1);
        due(x.holds(1), 5040);
        no(x.holds(0), 2);
        no(x.holds(256), 2);
        no(x.holds(-1), 2);
        x = puzzled(SQUARE);
        due(x.holds(8), 2);
        due(x.holds(10), 2);
        due(x.holds(12), 1);

        promise(44, SQUARE);
        due(x.keeps(5), 4);
        due(x.keeps(3), 2);
        due(x.keeps(15), 8);
        no(x.keeps(16), 2);
        no(x.keeps(0), 2);
        x = puzzled(S8);
        no(x.keeps(1), 3);

        promise(45, SQUARE);
        due(x.nth(x.brings(3, 6)), 1230);
        due(x.brings(5, 5), 0);
        no(x.brings(5, 3), 5);
        no(x.brings(1, 3), 5);
        no(x.brings(0, 3), 2);
        no(x.brings(3, 17), 2);
        x = puzzled(S8);
        no(x.brings(1, 2), 3);

        promise(46, PAIRS);
        due(x.block(0, 1), 3);
        due(x.block(9, 8), 0x300);
        due(x.block(0, 2), 1023);
        no(x.block(3, 3), 4);
        no(x.block(3, 10), 2);
        no(x.block(-1, 3), 2);
        no(x.block(10, 10), 2);
        x = puzzled(SIX);
        due(x.block(0, 1), 7);
        due(x.block(3, 4), 24);
        due(x.block(0, 3), 31);
        x = puzzled("points 4;move a (0 1)(2 3);");
        due(x.block(0, 2), 5);
        x = puzzled("points 4;move a (0 1);");
        due(x.block(2, 3), 12);
        due(x.block(0, 2), 7);

        promise(47, A5);
        due(x.anywhere(), 3);
        x = puzzled(S10);
        due(x.anywhere(), 10);
        x = puzzled(FANO);
        due(x.anywhere(), 2);
        x = puzzled(SIX);
        due(x.anywhere(), 0);
        x = puzzled("points 3;move a (0 1 2);");
        due(x.anywhere(), 1);
    }

    // ---- promises 48 to 53

    private void counted() {
        promise(48, "points 4;move a (0 1 2 3);move b (0 1);");
        due(x.fixing(0), 9);
        due(x.fixing(1), 8);
        due(x.fixing(2), 6);
        due(x.fixing(3), 0);
        due(x.fixing(4), 1);
        due(x.fixing(10), 0);
        no(x.fixing(11), 1);
        no(x.fixing(-1), 1);
        x = puzzled(S8);
        no(x.fixing(0), 3);

        promise(49, "points 6;move a (0 1 2 3 4 5);");
        due(x.colours(1), 1);
        due(x.colours(2), 14);
        due(x.colours(3), 130);
        no(x.colours(0), 1);
        no(x.colours(6), 1);
        x = puzzled("points 10;");
        due(x.colours(5), 9765625);
        x = puzzled(S8);
        no(x.colours(2), 3);

        promise(50, A5);
        due(x.typed(12034), 20);
        due(x.typed(10324), 15);
        due(x.typed(10234), 0);
        no(x.typed(10233), 1);
        x = puzzled(S8);
        no(x.typed(1234567), 3);

        promise(51, "points 5;move a (0 1 2 3 4);");
        due(x.root(23401, 2), 1);
        due(x.root(12340, 2), 3);
        due(x.root(1234, 5), 0);
        due(x.root(1234, 1000), 0);
        due(x.root(12340, 1), 1);
        no(x.root(12340, 5), 5);
        no(x.root(10234, 3), 5);
        no(x.root(12340, 0), 1);
        no(x.root(12340, 1001), 1);
        no(x.root(12341, 2), 1);
        x = puzzled(S8);
        no(x.root(1234567, 2), 3);

        promise(52, A5);
        due(x.slightest(), 3);
        x = puzzled(FANO);
        due(x.slightest(), 4);
        x = puzzled("points 3;move a (1);");
        no(x.slightest(), 5);
        x = puzzled(S8);
        no(x.slightest(), 3);

        promise(53, A5);
        due(x.ofOrder(1), 1);
        due(x.ofOrder(2), 15);
        due(x.ofOrder(3), 20);
        due(x.ofOrder(5), 24);
        no(x.ofOrder(4), 5);
        no(x.ofOrder(0), 1);
        x = puzzled(S7);
        due(x.ofOrder(12), 420);
        x = puzzled(S8);
        no(x.ofOrder(1), 3);
    }

    // ---- promises 54 to 61

    private void acts() {
        promise(54, SQUARE);
        due(x.turn(0), 0);
        due(x.turn(1), 4);
        due(x.turn(3), 2);
        due(x.stand(), 2103);
        no(x.turn(4), 2);
        no(x.turn(-1), 2);
        due(x.many(2), 3);

        promise(55, SQUARE);
        due(x.place(1230), 4);
        no(x.place(1230), 4);
        due(x.place(1203), 2);
        no(x.place(1200), 1);
        due(x.stand(), 1203);
        due(x.many(2), 2);

        promise(56, SQUARE);
        no(x.home(), 4);
        due(x.turn(2), 2);
        due(x.home(), 2);
        due(x.stand(), 123);
        no(x.home(), 4);
        due(x.many(2), 2);

        promise(57, SQUARE);
        due(x.add(1023), 24);
        due(x.step(4), 1023);
        due(x.add(123), 24);
        due(x.add(123), 24);
        due(x.add(123), 24);
        due(x.many(1), 6);
        no(x.add(123), 3);
        no(x.add(122), 1);
        due(x.many(2), 4);

        promise(58, S3);
        due(x.turn(0), 0);
        due(x.drop(0), 2);
        due(x.step(0), 102);
        due(x.many(1), 1);
        due(x.stand(), 120);
        no(x.solve(-1), 6);
        no(x.drop(1), 2);
        no(x.drop(-1), 2);
        due(x.drop(0), 1);
        no(x.drop(0), 2);

        promise(59, S3);
        no(x.undo(), 5);
        due(x.drop(0), 2);
        due(x.undo(), 0);
        due(x.order(), 6);
        due(x.step(0), 120);
        due(x.step(2), 102);
        for (int i = 0; i < 14; i++) {
            due(x.turn(0), i % 3 == 2 ? 3 : 0);
        }
        due(x.many(2), 12);
        for (int i = 11; i >= 0; i--) {
            due(x.undo(), i);
        }
        no(x.undo(), 5);
        due(x.stand(), 201);
        due(x.place(102), 3);
        due(x.home(), 2);
        due(x.add(12), 6);
        due(x.deepest(0), 2);
        due(x.undo(), 2);
        due(x.many(1), 2);
        due(x.undo(), 1);
        due(x.stand(), 102);
        due(x.undo(), 0);
        due(x.stand(), 201);

        promise(60, SIX);
        prints(12043, "(0 1 2)(3 4)");
        prints(1234, "()");
        prints(1243, "(3 4)");
        prints(42130, "(0 4)(1 2)");
        no(x.print(1244), 1);
        printed("(0 4)(1 2)");
        x = puzzled(S10);
        prints(1032547698L, "(0 1)(2 3)(4 5)(6 7)(8 9)");
        prints(9012345678L, "(0 9 8 7 6 5 4 3 2 1)");

        promise(61, S3);
        no(x.out(0), 5);
        no(x.out(-1), 1);
        due(x.print(102), 5);
        due(x.out(0), '(');
        due(x.out(4), ')');
        no(x.out(5), 5);
        no(x.out(-1), 1);
        no(x.out(Integer.MAX_VALUE), 5);
        fine("", 0);
        due(x.out(1), '0');
    }

    private void prints(long arrangement, String text) {
        due(x.print(arrangement), text.length());
        printed(text);
    }

    private void printed(String text) {
        List<Integer> bytes = new ArrayList<>();
        for (int i = 0; x.out(i) >= 0; i++) {
            bytes.add(x.out(i));
        }
        StringBuilder found = new StringBuilder();
        bytes.forEach(one -> found.append((char) (int) one));
        if (!found.toString().equals(text)) {
            bad("printed " + found + ", due is " + text);
        }
    }

    // ---- 5 behind 1 and 2, where there are no points

    private void withoutPoints() {
        promise = 1;
        x = new MoveGroups();
        no(x.takes(0, 0), 1);
        no(x.product(0, 0), 1);
        no(x.inverse(0), 1);
        no(x.power(0, 0), 1);
        no(x.about(0, 0), 1);
        no(x.member(0), 1);
        no(x.followed(0), 1);
        no(x.rank(0), 1);
        no(x.way(0, -1), 1);
        no(x.alike(0), 1);
        no(x.commutator(0, 0), 1);
        no(x.turned(0, 0), 1);
        no(x.same(0, 0), 1);
        no(x.typed(0), 1);
        no(x.root(0, 1), 1);
        no(x.place(0), 1);
        no(x.add(0), 1);
        no(x.print(0), 1);
        no(x.deep(-1), 1);
        no(x.deep(0), 5);
        no(x.deepest(2), 1);
        no(x.deepest(0), 5);
        no(x.mean(0), 5);
        no(x.nearer(), 5);
        no(x.solve(-2), 1);
        no(x.solve(-1), 5);
        no(x.centre(-2), 1);
        no(x.centre(-1), 5);
        no(x.classes(), 5);
        no(x.derived(-1), 1);
        no(x.derived(0), 5);
        no(x.central(0), 5);
        no(x.has(0), 5);
        no(x.has(4), 1);
        no(x.by(0), 5);
        no(x.by(1), 2);
        no(x.meet(0, 0), 5);
        no(x.meet(0, 1), 2);
        no(x.normal(0), 5);
        no(x.spare(), 5);
        no(x.fewest(), 5);
        no(x.holds(1), 2);
        no(x.keeps(1), 2);
        no(x.brings(1, 1), 2);
        no(x.block(0, 0), 2);
        no(x.anywhere(), 5);
        no(x.fixing(0), 5);
        no(x.fixing(11), 1);
        no(x.colours(1), 5);
        no(x.colours(0), 1);
        no(x.slightest(), 5);
        no(x.ofOrder(1), 5);
        no(x.ofOrder(0), 1);
        no(x.orbits(), 5);
        no(x.orbit(0), 2);
        no(x.base(-1), 5);
        no(x.base(-2), 1);
        no(x.level(0), 5);
        no(x.level(-1), 1);
        no(x.order(), 5);
        no(x.nth(0), 5);
        no(x.nth(-1), 1);
        no(x.step(0), 2);
        no(x.stand(), 5);
        no(x.turn(0), 2);
        no(x.home(), 5);
        no(x.drop(0), 2);
        no(x.undo(), 5);
        no(x.out(0), 5);
    }
}
