/** The boundaries that the document names of the calls behind load(), sentence by sentence. */
public final class BoundariesTest extends Bench {
    private static final int LEAST = Integer.MIN_VALUE;
    private static final int MOST = Integer.MAX_VALUE;

    private static final String TWO = "points 2;";
    private static final String TEN = "points 10;";
    private static final String SWAP = "points 2;move a (0 1);";
    private static final String STILL = "points 3;move a (1);";
    /** Its arrangements in order: 0123 0321 1032 1230 2103 2301 3012 3210. */
    private static final String SQUARE = "points 4;move r (0 1 2 3);move s (0 2);";
    private static final String S4 = "points 4;move a (0 1 2 3);move b (0 1);";
    private static final String A5 = "points 5;move a (0 1 2 3 4);move b (0 1 2);";
    private static final String SIX_MOVES = "points 3;move a(0 1);move b(1 2);move c(0 2);move d(0 1 2);move e(0 2 1);word f a a;";
    private static final String LAST_OF_SIX
            = "points 7;move a(0);move b(0);move c(0);move d(0);move e(0);move f(0 1 2 3 4 5 6);";
    /** ORDER 5,040: the most that is SMALL. */
    private static final String S7 = "points 7;move a (0 1 2 3 4 5 6);move b (0 1);";
    private static final String A7_2 = "points 9;move a (0 1 2);move b (2 3 4 5 6);move c (7 8);";
    /** ORDER 720 times 8, 5,760: no longer SMALL, and no group of ten POINTS comes nearer by products of such. */
    private static final String S6_D4 = "points 10;move a (0 1 2 3 4 5);move b (0 1);move c (6 7 8 9);move d (6 8);";
    private static final String A8 = "points 8;move a (0 1 2);move b (1 2 3 4 5 6 7);";
    private static final String S10 = "points 10;move a (0 1 2 3 4 5 6 7 8 9);move b (0 1);";
    private static final String C30 = "points 10;move a (0 1)(2 3 4)(5 6 7 8 9);";

    private static final long HOME_7 = 123456;
    private static final long HOME_10 = 123456789;
    private static final long BACKWARDS = 9876543210L;

    public static void main(String[] args) {
        BoundariesTest test = new BoundariesTest();
        test.numbersOfArrangements();
        test.steps();
        test.ofOneArrangement();
        test.orbitsAndBase();
        test.placesInTheGroup();
        test.ways();
        test.depths();
        test.standAndWays();
        test.centreAndClasses();
        test.rowsOfGroups();
        test.someMoves();
        test.neededMoves();
        test.sets();
        test.blocks();
        test.counted();
        test.roots();
        test.smallAtFiveThousandForty();
        test.smallInAnotherGroup();
        test.noLongerSmall();
        test.whatNeedsNotBeSmall();
        test.firstStatus();
        test.withoutPoints();
        test.turnAndPlace();
        test.homeAddDrop();
        test.undone();
        test.printed();
        test.needPromises(7, 61);
        test.end();
    }

    // ---- terms and promises 7 to 13

    private void numbersOfArrangements() {
        says(11, "a number of as many digits as there are POINTS (the first digits may be 0)");
        due(TWO, x -> x.inverse(1), 1);
        due(TWO, x -> x.inverse(10), 10);
        due(TEN, x -> x.inverse(HOME_10), HOME_10);
        due(TEN, x -> x.inverse(BACKWARDS), BACKWARDS);
        due(TEN, x -> x.inverse(1234567890), 9012345678L);
        due(SQUARE, x -> x.inverse(132), 132);

        says(11, "1: an ARRANGEMENT that is none");
        for (long none : new long[] {0, 2, 11, 12, 20, 21, 100, 101, 110, 1010, -1, -10, Long.MIN_VALUE, Long.MAX_VALUE}) {
            no(TWO, x -> x.inverse(none), 1);
        }
        for (long none : new long[] {0, 12, 122, 124, 1234, 3211, 3214, 4321, 10123, 100123, 1230123, -123, -3210}) {
            no(SQUARE, x -> x.inverse(none), 1);
        }
        for (long none : new long[] {123456788, 1023456780, 9876543211L, 10123456789L, 90123456789L, 1L << 40, 4294967296L + HOME_10}) {
            no(TEN, x -> x.inverse(none), 1);
        }
    }

    private void steps() {
        says(7, "a MOVE (its number twice) or its INVERSE (twice and 1); no such STEP is 2");
        due(SQUARE, x -> x.step(0), 1230);
        due(SQUARE, x -> x.step(1), 3012);
        due(SQUARE, x -> x.step(2), 2103);
        due(SQUARE, x -> x.step(3), 2103);
        no(SQUARE, x -> x.step(4), 2);
        no(SQUARE, x -> x.step(-1), 2);
        no(SQUARE, x -> x.step(LEAST), 2);
        no(SQUARE, x -> x.step(MOST), 2);
        no(TWO, x -> x.step(0), 2);
        due(SIX_MOVES, x -> x.step(9), 120);
        due(SIX_MOVES, x -> x.step(11), 12);
        no(SIX_MOVES, x -> x.step(12), 2);

        says(8, "THE STAND, HOME at first");
        due(TWO, x -> x.stand(), 1);
        due(TEN, x -> x.stand(), HOME_10);
        given(x -> x.place(BACKWARDS));
        due(TEN, x -> x.stand(), BACKWARDS);

        says(9, "Where an ARRANGEMENT takes a POINT: no such POINT is 2");
        due(SQUARE, x -> x.takes(3201, 0), 3);
        due(SQUARE, x -> x.takes(3201, 3), 1);
        no(SQUARE, x -> x.takes(3201, 4), 2);
        no(SQUARE, x -> x.takes(3201, -1), 2);
        no(SQUARE, x -> x.takes(3201, LEAST), 2);
        no(SQUARE, x -> x.takes(3201, MOST), 2);
        due(TEN, x -> x.takes(BACKWARDS, 9), 0);
        due(TEN, x -> x.takes(BACKWARDS, 0), 9);
        no(TEN, x -> x.takes(BACKWARDS, 10), 2);
        no(SQUARE, x -> x.takes(3204, 0), 1);
    }

    private void ofOneArrangement() {
        says(10, "PRODUCT of two: either of them may be none (1)");
        due(TWO, x -> x.product(10, 10), 1);
        due(TEN, x -> x.product(BACKWARDS, BACKWARDS), HOME_10);
        due(SQUARE, x -> x.product(1230, 2103), 1032);
        due(SQUARE, x -> x.product(2103, 1230), 3210);
        no(SQUARE, x -> x.product(1230, 2104), 1);
        no(SQUARE, x -> x.product(1231, 2103), 1);
        no(SQUARE, x -> x.product(-1, -1), 1);

        says(12, "POWER k (-1,000 to 1,000)");
        due(C30, x -> x.power(1034267895L, 1000), 134256789);
        due(C30, x -> x.power(1034267895L, -1000), 142356789);
        String six = "points 5;move a (0 1 2)(3 4);";
        due(six, x -> x.power(12043, 1000), 12034);
        due(six, x -> x.power(12043, 999), 1243);
        due(six, x -> x.power(12043, -999), 1243);
        due(six, x -> x.power(12043, -1000), 20134);
        due(six, x -> x.power(12043, -1), 20143);
        due(six, x -> x.power(12043, 1), 12043);
        no(six, x -> x.power(12043, 1001), 1);
        no(six, x -> x.power(12043, -1001), 1);
        no(six, x -> x.power(12043, MOST), 1);
        no(six, x -> x.power(12043, LEAST), 1);
        no(six, x -> x.power(12044, 1), 1);

        says(12, "POWER 0 is HOME");
        due(six, x -> x.power(12043, 0), 1234);
        due(SWAP, x -> x.power(10, 0), 1);

        says(13, "what 0 to 4; another one is 1");
        due(C30, x -> x.about(1034267895L, 0), 30);
        due(C30, x -> x.about(1034267895L, 1), 3);
        due(C30, x -> x.about(1034267895L, 2), 0);
        due(C30, x -> x.about(1034267895L, 3), 0);
        due(C30, x -> x.about(1034267895L, 4), 1023);
        no(C30, x -> x.about(1034267895L, 5), 1);
        no(C30, x -> x.about(1034267895L, -1), 1);
        no(C30, x -> x.about(1034267895L, LEAST), 1);
        no(C30, x -> x.about(1034267895L, MOST), 1);
        no(C30, x -> x.about(1034267894L, 0), 1);

        says(13, "the least POWER, 1 or more, that is HOME: 1 for HOME");
        due(TWO, x -> x.about(1, 0), 1);
        due(TWO, x -> x.about(10, 0), 2);
        due(TEN, x -> x.about(HOME_10, 0), 1);
        due("points 8;", x -> x.about(1234567, 0), 1);
        due("points 9;", x -> x.about(12345678, 0), 1);
        due(TEN, x -> x.about(1234567890, 0), 10);

        says(13, "CYCLES (POINTS that stay are such)");
        due(TEN, x -> x.about(HOME_10, 1), 10);
        due(TEN, x -> x.about(1023456789, 1), 9);
        due(TEN, x -> x.about(1234567890, 1), 1);

        says(13, "how many POINTS stay, all or none");
        due(TEN, x -> x.about(HOME_10, 2), 10);
        due(TEN, x -> x.about(1023456789, 2), 8);
        due(TEN, x -> x.about(BACKWARDS, 2), 0);

        says(13, "1 if it is EVEN, else 0");
        due(TWO, x -> x.about(1, 3), 1);
        due(TWO, x -> x.about(10, 3), 0);
        due(TEN, x -> x.about(1203456789, 3), 1);
        due(TEN, x -> x.about(1234567890, 3), 0);

        says(13, "POINTS that it moves, as bits: none, the last one");
        due(TEN, x -> x.about(HOME_10, 4), 0);
        due(TEN, x -> x.about(123456798, 4), 768);
        due(TEN, x -> x.about(BACKWARDS, 4), 1023);
    }

    // ---- promises 14 to 22

    private void orbitsAndBase() {
        says(14, "no such POINT is 2");
        due(SQUARE, x -> x.orbit(0), 15);
        due(SQUARE, x -> x.orbit(3), 15);
        no(SQUARE, x -> x.orbit(4), 2);
        no(SQUARE, x -> x.orbit(-1), 2);
        no(SQUARE, x -> x.orbit(LEAST), 2);
        no(SQUARE, x -> x.orbit(MOST), 2);
        due(TEN, x -> x.orbit(9), 512);
        no(TEN, x -> x.orbit(10), 2);
        no(TEN, x -> x.orbit(32), 2);

        says(15, "ORBITS of all POINTS, from one to as many as POINTS");
        due(S10, x -> x.orbits(), 1);
        due(TEN, x -> x.orbits(), 10);
        due(TWO, x -> x.orbits(), 2);
        due(SWAP, x -> x.orbits(), 1);

        says(16, "1: k below NONE");
        due(SQUARE, x -> x.base(-1), 2);
        no(SQUARE, x -> x.base(-2), 1);
        no(SQUARE, x -> x.base(LEAST), 1);

        says(16, "5: not so many");
        due(SQUARE, x -> x.base(0), 0);
        due(SQUARE, x -> x.base(1), 1);
        no(SQUARE, x -> x.base(2), 5);
        no(SQUARE, x -> x.base(MOST), 5);
        due(TEN, x -> x.base(-1), 0);
        no(TEN, x -> x.base(0), 5);
        due(S10, x -> x.base(-1), 9);
        due(S10, x -> x.base(8), 8);
        no(S10, x -> x.base(9), 5);

        says(16, "the least POINT that something in THE GROUP moves");
        due("points 10;move a (8 9);", x -> x.base(-1), 1);
        due("points 10;move a (8 9);", x -> x.base(0), 8);
        due("points 10;move a (2 7)(3 9);move b (3 9);", x -> x.base(1), 3);

        says(17, "1: below 0");
        due(SQUARE, x -> x.level(0), 15);
        no(SQUARE, x -> x.level(-1), 1);
        no(SQUARE, x -> x.level(LEAST), 1);

        says(17, "5: BASE has not so many");
        due(SQUARE, x -> x.level(1), 10);
        no(SQUARE, x -> x.level(2), 5);
        no(SQUARE, x -> x.level(MOST), 5);
        no(TEN, x -> x.level(0), 5);
        due(S10, x -> x.level(8), 768);
        no(S10, x -> x.level(9), 5);
        due("points 10;move a (8 9);", x -> x.level(0), 768);
        no("points 10;move a (8 9);", x -> x.level(1), 5);
    }

    private void placesInTheGroup() {
        says(18, "ORDER: HOME by no STEPS, at most all ARRANGEMENTS");
        due(TWO, x -> x.order(), 1);
        due(STILL, x -> x.order(), 1);
        due(SWAP, x -> x.order(), 2);
        due(S10, x -> x.order(), 3628800);

        says(19, "1 if an ARRANGEMENT is in THE GROUP, else 0 (1)");
        due(TWO, x -> x.member(1), 1);
        due(TWO, x -> x.member(10), 0);
        due(A5, x -> x.member(12034), 1);
        due(A5, x -> x.member(10234), 0);
        due(S10, x -> x.member(BACKWARDS), 1);
        no(A5, x -> x.member(10235), 1);
        no(A5, x -> x.member(-1), 1);

        says(20, "how many POINTS, from 0 on: none, some, all");
        due("points 5;move a (1 2);", x -> x.followed(10234), 0);
        due("points 5;move a (1 2);", x -> x.followed(3124), 1);
        due("points 5;move a (1 2);", x -> x.followed(2143), 3);
        due("points 5;move a (1 2);", x -> x.followed(2134), 5);
        due(A5, x -> x.followed(10234), 3);
        due(A5, x -> x.followed(1234), 5);
        due(TWO, x -> x.followed(10), 0);
        due(TWO, x -> x.followed(1), 2);
        due(S10, x -> x.followed(BACKWARDS), 10);
        no(A5, x -> x.followed(10233), 1);

        says(21, "1: below 0");
        due(SQUARE, x -> x.nth(0), 123);
        no(SQUARE, x -> x.nth(-1), 1);
        no(SQUARE, x -> x.nth(LEAST), 1);

        says(21, "5: not so many");
        due(SQUARE, x -> x.nth(7), 3210);
        no(SQUARE, x -> x.nth(8), 5);
        no(SQUARE, x -> x.nth(MOST), 5);
        due(TWO, x -> x.nth(0), 1);
        no(TWO, x -> x.nth(1), 5);
        due(S10, x -> x.nth(3628799), BACKWARDS);
        no(S10, x -> x.nth(3628800), 5);

        says(22, "Which one of THE GROUP: the least is the 0th; 6: it is not in THE GROUP");
        due(SQUARE, x -> x.rank(123), 0);
        due(SQUARE, x -> x.rank(3210), 7);
        no(SQUARE, x -> x.rank(3201), 6);
        no(SQUARE, x -> x.rank(132), 6);
        no(SQUARE, x -> x.rank(3211), 1);
        due(S10, x -> x.rank(BACKWARDS), 3628799);
        due(S10, x -> x.rank(HOME_10), 0);
        no(TWO, x -> x.rank(10), 6);
    }

    // ---- promises 23 to 28

    private void ways() {
        says(23, "1: k below NONE, too");
        due(SQUARE, x -> x.way(321, -1), 3);
        no(SQUARE, x -> x.way(321, -2), 1);
        no(SQUARE, x -> x.way(321, LEAST), 1);
        no(SQUARE, x -> x.way(320, -1), 1);
        no(SQUARE, x -> x.way(-1, 0), 1);

        says(23, "5: not so many");
        due(SQUARE, x -> x.way(321, 0), 0);
        due(SQUARE, x -> x.way(321, 1), 0);
        due(SQUARE, x -> x.way(321, 2), 2);
        no(SQUARE, x -> x.way(321, 3), 5);
        no(SQUARE, x -> x.way(321, MOST), 5);

        says(23, "HOME by no STEP");
        due(SQUARE, x -> x.way(123, -1), 0);
        no(SQUARE, x -> x.way(123, 0), 5);
        due(TWO, x -> x.way(1, -1), 0);
        no(TWO, x -> x.way(1, 0), 5);

        says(23, "6: it is not in THE GROUP, whatever k is");
        no(SQUARE, x -> x.way(132, -1), 6);
        no(SQUARE, x -> x.way(132, 0), 6);
        no(SQUARE, x -> x.way(132, MOST), 6);
        no(SQUARE, x -> x.way(132, -2), 1);
        no(TWO, x -> x.way(10, -1), 6);

        says(23, "STEPS of six MOVES");
        due(LAST_OF_SIX, x -> x.way(1234560, 0), 10);
        due(LAST_OF_SIX, x -> x.way(6012345, 0), 11);
        due(LAST_OF_SIX, x -> x.way(3456012, -1), 3);

        says(23, "of several the first row of STEPS by numbers");
        due(SQUARE, x -> x.way(2301, 0), 0);
        due(SQUARE, x -> x.way(2301, 1), 0);
        due(SQUARE, x -> x.way(1032, 0), 0);
        due(SQUARE, x -> x.way(1032, 1), 2);
        due(SWAP, x -> x.way(10, 0), 0);
        due("points 2;move a (0);move b (0 1);move c (1 0);", x -> x.way(10, 0), 2);
        due("points 4;move a (2 3);move b (0 1);", x -> x.way(1032, 0), 0);
        due("points 4;move a (2 3);move b (0 1);", x -> x.way(1032, 1), 2);
    }

    private void depths() {
        says(24, "1: below 0");
        due(SQUARE, x -> x.deep(0), 1);
        no(SQUARE, x -> x.deep(-1), 1);
        no(SQUARE, x -> x.deep(LEAST), 1);

        says(24, "5: none have");
        due(SQUARE, x -> x.deep(1), 3);
        due(SQUARE, x -> x.deep(2), 3);
        due(SQUARE, x -> x.deep(3), 1);
        no(SQUARE, x -> x.deep(4), 5);
        no(SQUARE, x -> x.deep(MOST), 5);
        due(TWO, x -> x.deep(0), 1);
        no(TWO, x -> x.deep(1), 5);

        says(25, "what 0 and 1; another one is 1");
        due(SQUARE, x -> x.deepest(0), 3);
        due(SQUARE, x -> x.deepest(1), 1);
        no(SQUARE, x -> x.deepest(2), 1);
        no(SQUARE, x -> x.deepest(-1), 1);
        no(SQUARE, x -> x.deepest(LEAST), 1);
        no(SQUARE, x -> x.deepest(MOST), 1);

        says(25, "of HOME alone");
        due(TWO, x -> x.deepest(0), 0);
        due(TWO, x -> x.deepest(1), 0);

        says(25, "the first ARRANGEMENT that has it");
        due(C30, x -> x.deepest(0), 15);
        due("points 5;move a (0 1 2 3 4);", x -> x.deepest(1), 2);

        says(26, "what 0: above, 1: below; another one is 1");
        due(SQUARE, x -> x.mean(0), 3);
        due(SQUARE, x -> x.mean(1), 2);
        no(SQUARE, x -> x.mean(2), 1);
        no(SQUARE, x -> x.mean(-1), 1);
        no(SQUARE, x -> x.mean(LEAST), 1);
        no(SQUARE, x -> x.mean(MOST), 1);

        says(26, "in lowest terms");
        due(TWO, x -> x.mean(0), 0);
        due(TWO, x -> x.mean(1), 1);
        due(SWAP, x -> x.mean(0), 1);
        due(SWAP, x -> x.mean(1), 2);
        due("points 4;move a (0 1 2 3);", x -> x.mean(0), 1);
        due("points 4;move a (0 1 2 3);", x -> x.mean(1), 1);
        due("points 5;move a (0 1 2 3 4);", x -> x.mean(0), 6);
        due("points 5;move a (0 1 2 3 4);", x -> x.mean(1), 5);
    }

    private void standAndWays() {
        says(27, "STEPS by which THE STAND comes nearer HOME: none at HOME");
        due(SQUARE, x -> x.nearer(), 0);
        due(TWO, x -> x.nearer(), 0);

        says(27, "as bits, up to all");
        given(x -> x.place(321));
        due(SQUARE, x -> x.nearer(), 15);
        given(x -> x.turn(0));
        due(SQUARE, x -> x.nearer(), 2);
        given(x -> x.turn(1));
        due(SQUARE, x -> x.nearer(), 1);
        given(x -> x.turn(0) + x.turn(0));
        due(SQUARE, x -> x.nearer(), 3);

        says(27, "is less: a STEP to the same DEPTH is none");
        given(x -> x.turn(0) + x.turn(0));
        due("points 5;move a (0 1 2 3 4);", x -> x.nearer(), 2);
        given(x -> x.turn(0));
        due("points 5;move a (0 1 2 3 4);word b a a';", x -> x.nearer(), 2);

        says(27, "STEPS of six MOVES, as bits");
        given(x -> x.turn(10));
        due(LAST_OF_SIX, x -> x.nearer(), 2048);
        given(x -> x.turn(11));
        due(LAST_OF_SIX, x -> x.nearer(), 1024);

        says(27, "6: THE STAND is not in THE GROUP");
        given(x -> x.place(132));
        no(SQUARE, x -> x.nearer(), 6);
        given(x -> x.turn(0) + x.drop(0));
        no(SQUARE, x -> x.nearer(), 6);

        says(28, "1: k below NONE");
        due(SQUARE, x -> x.solve(-1), 0);
        no(SQUARE, x -> x.solve(-2), 1);
        no(SQUARE, x -> x.solve(LEAST), 1);

        says(28, "5: not so many");
        no(SQUARE, x -> x.solve(0), 5);
        no(SQUARE, x -> x.solve(MOST), 5);
        given(x -> x.turn(0) + x.turn(2));
        due(SQUARE, x -> x.solve(-1), 2);
        due(SQUARE, x -> x.solve(0), 0);
        due(SQUARE, x -> x.solve(1), 2);
        no(SQUARE, x -> x.solve(2), 5);

        says(28, "from THE STAND HOME, not to it");
        given(x -> x.turn(0));
        due(SQUARE, x -> x.solve(0), 1);
        no(SQUARE, x -> x.solve(1), 5);

        says(28, "6: THE STAND is not in THE GROUP, whatever k is");
        given(x -> x.place(132));
        no(SQUARE, x -> x.solve(-1), 6);
        no(SQUARE, x -> x.solve(0), 6);
        no(SQUARE, x -> x.solve(MOST), 6);
        no(SQUARE, x -> x.solve(-2), 1);
    }

    // ---- promises 29 to 37

    private void centreAndClasses() {
        says(29, "1: k below NONE");
        due(SQUARE, x -> x.centre(-1), 2);
        no(SQUARE, x -> x.centre(-2), 1);
        no(SQUARE, x -> x.centre(LEAST), 1);

        says(29, "5: there is no k-th");
        due(SQUARE, x -> x.centre(0), 0);
        due(SQUARE, x -> x.centre(1), 5);
        no(SQUARE, x -> x.centre(2), 5);
        no(SQUARE, x -> x.centre(MOST), 5);

        says(29, "CENTRE: HOME alone, or all");
        due(A5, x -> x.centre(-1), 1);
        due(A5, x -> x.centre(0), 0);
        no(A5, x -> x.centre(1), 5);
        due(TWO, x -> x.centre(-1), 1);
        due(C30, x -> x.centre(-1), 30);
        due(C30, x -> x.centre(29), 29);
        no(C30, x -> x.centre(30), 5);

        says(30, "CLASSES: one of HOME alone, or each by itself");
        due(TWO, x -> x.classes(), 1);
        due(C30, x -> x.classes(), 30);
        due(SQUARE, x -> x.classes(), 5);

        says(31, "in the CLASS of an ARRANGEMENT; 6: it is not in THE GROUP");
        due(SQUARE, x -> x.alike(123), 1);
        due(SQUARE, x -> x.alike(2301), 1);
        due(SQUARE, x -> x.alike(321), 2);
        no(SQUARE, x -> x.alike(132), 6);
        no(SQUARE, x -> x.alike(133), 1);
        due(TWO, x -> x.alike(1), 1);
        no(TWO, x -> x.alike(10), 6);

        says(36, "1 if two of THE GROUP are in one CLASS, else 0");
        due(SQUARE, x -> x.same(321, 2103), 1);
        due(SQUARE, x -> x.same(1032, 2103), 0);
        due(SQUARE, x -> x.same(123, 123), 1);
        due(A5, x -> x.same(12340, 23401), 0);

        says(36, "6: one is not in it");
        no(SQUARE, x -> x.same(132, 2103), 6);
        no(SQUARE, x -> x.same(2103, 132), 6);
        no(SQUARE, x -> x.same(132, 132), 6);
        no(SQUARE, x -> x.same(132, 131), 1);
        no(SQUARE, x -> x.same(131, 132), 1);

        says(34, "COMMUTATOR of two: either may be none (1)");
        due(SQUARE, x -> x.commutator(1230, 2103), 2301);
        due(SQUARE, x -> x.commutator(1230, 1230), 123);
        due("points 3;", x -> x.commutator(120, 102), 120);
        due("points 3;", x -> x.commutator(102, 120), 201);
        no(SQUARE, x -> x.commutator(1230, 2104), 1);
        no(SQUARE, x -> x.commutator(1231, 2103), 1);

        says(35, "TURNED: either may be none (1)");
        due(SQUARE, x -> x.turned(1023, 1230), 213);
        due(SQUARE, x -> x.turned(1230, 1023), 2031);
        due(SQUARE, x -> x.turned(1230, 123), 1230);
        no(SQUARE, x -> x.turned(1230, 124), 1);
        no(SQUARE, x -> x.turned(1232, 123), 1);
    }

    private void rowsOfGroups() {
        says(32, "1: below 0");
        due(S4, x -> x.derived(0), 24);
        no(S4, x -> x.derived(-1), 1);
        no(S4, x -> x.derived(LEAST), 1);

        says(32, "5: some one up to it is of the ORDER of that ahead of it");
        due(S4, x -> x.derived(1), 12);
        due(S4, x -> x.derived(2), 4);
        due(S4, x -> x.derived(3), 1);
        no(S4, x -> x.derived(4), 5);
        no(S4, x -> x.derived(MOST), 5);
        due(A5, x -> x.derived(0), 60);
        no(A5, x -> x.derived(1), 5);
        due(TWO, x -> x.derived(0), 1);
        no(TWO, x -> x.derived(1), 5);
        due(S10, x -> x.derived(1), 1814400);
        no(S10, x -> x.derived(2), 5);

        says(37, "1: below 0");
        due(S4, x -> x.central(0), 24);
        no(S4, x -> x.central(-1), 1);
        no(S4, x -> x.central(LEAST), 1);

        says(37, "5: some one up to it is of the ORDER of that ahead of it");
        due(S4, x -> x.central(1), 12);
        no(S4, x -> x.central(2), 5);
        no(S4, x -> x.central(MOST), 5);
        due(SQUARE, x -> x.central(1), 2);
        due(SQUARE, x -> x.central(2), 1);
        no(SQUARE, x -> x.central(3), 5);
        due(TWO, x -> x.central(0), 1);
        no(TWO, x -> x.central(1), 5);

        says(33, "what 0 to 3; another one is 1");
        due(SQUARE, x -> x.has(0), 0);
        due(SQUARE, x -> x.has(3), 0);
        no(SQUARE, x -> x.has(4), 1);
        no(SQUARE, x -> x.has(-1), 1);
        no(SQUARE, x -> x.has(LEAST), 1);
        no(SQUARE, x -> x.has(MOST), 1);

        says(33, "any two STEPS make the same PRODUCT either way about: of none, of one");
        due(TWO, x -> x.has(0), 1);
        due(C30, x -> x.has(0), 1);
        due("points 4;move a (0 1);move b (2 3);", x -> x.has(0), 1);
        due("points 4;move a (0 1);move b (1 2);", x -> x.has(0), 0);

        says(33, "some DERIVED group is HOME alone");
        due(TWO, x -> x.has(1), 1);
        due(S4, x -> x.has(1), 1);
        due(A5, x -> x.has(1), 0);
        due(S10, x -> x.has(1), 0);

        says(33, "all of THE GROUP are EVEN");
        due(TWO, x -> x.has(2), 1);
        due(SWAP, x -> x.has(2), 0);
        due(A5, x -> x.has(2), 1);
        due("points 4;move a (0 1 2);move b (2 3);", x -> x.has(2), 0);
        due("points 4;move a (0 1)(2 3);", x -> x.has(2), 1);

        says(33, "PRIMITIVE: takes POINT 0 to each POINT, each BLOCK of two unlike POINTS has all");
        due(SWAP, x -> x.has(3), 1);
        due(TWO, x -> x.has(3), 0);
        due("points 3;move a (0 1);", x -> x.has(3), 0);
        due("points 3;move a (1 2);", x -> x.has(3), 0);
        due("points 7;move a (0 1 2 3 4 5 6);", x -> x.has(3), 1);
        due("points 9;move a (0 1 2 3 4 5 6 7 8);", x -> x.has(3), 0);
        due("points 4;move a (0 1)(2 3);move b (0 2)(1 3);", x -> x.has(3), 0);
        due("points 4;move a (0 1)(2 3);move b (1 2 3);", x -> x.has(3), 1);
        due("points 4;move a (0 2 1 3);move b (0 1);", x -> x.has(3), 0);
        due("points 4;move a (0 1 3 2);move b (0 3);", x -> x.has(3), 0);
        due(S10, x -> x.has(3), 1);
    }

    // ---- promises 38 to 47

    private void someMoves() {
        says(38, "bits; 0: of none; no such MOVE is 2");
        due(SQUARE, x -> x.by(0), 1);
        due(SQUARE, x -> x.by(1), 4);
        due(SQUARE, x -> x.by(3), 8);
        no(SQUARE, x -> x.by(4), 2);
        no(SQUARE, x -> x.by(5), 2);
        no(SQUARE, x -> x.by(-1), 2);
        no(SQUARE, x -> x.by(LEAST), 2);
        no(SQUARE, x -> x.by(MOST), 2);
        due(SIX_MOVES, x -> x.by(63), 6);
        due(SIX_MOVES, x -> x.by(32), 1);
        due(SIX_MOVES, x -> x.by(48), 3);
        no(SIX_MOVES, x -> x.by(64), 2);
        due(TWO, x -> x.by(0), 1);
        no(TWO, x -> x.by(1), 2);
        due(S10, x -> x.by(3), 3628800);

        says(39, "both in the group of some MOVES and in that of some others (bits; 0: of none) (2)");
        due(SQUARE, x -> x.meet(0, 0), 1);
        due(SQUARE, x -> x.meet(0, 3), 1);
        due(SQUARE, x -> x.meet(3, 0), 1);
        due(SQUARE, x -> x.meet(3, 3), 8);
        due(SQUARE, x -> x.meet(1, 3), 4);
        due(SQUARE, x -> x.meet(3, 2), 2);
        due(SQUARE, x -> x.meet(1, 2), 1);
        no(SQUARE, x -> x.meet(4, 0), 2);
        no(SQUARE, x -> x.meet(0, 4), 2);
        no(SQUARE, x -> x.meet(-1, 0), 2);
        no(SQUARE, x -> x.meet(0, -1), 2);
        no(SQUARE, x -> x.meet(LEAST, LEAST), 2);
        due(SIX_MOVES, x -> x.meet(63, 24), 3);
        no(SIX_MOVES, x -> x.meet(64, 24), 2);
        no(SIX_MOVES, x -> x.meet(24, 64), 2);
        due(TWO, x -> x.meet(0, 0), 1);

        says(40, "the group of some MOVES, TURNED by each MOVE; no such MOVE is 2");
        due(SQUARE, x -> x.normal(0), 1);
        due(SQUARE, x -> x.normal(1), 1);
        due(SQUARE, x -> x.normal(2), 0);
        due(SQUARE, x -> x.normal(3), 1);
        no(SQUARE, x -> x.normal(4), 2);
        no(SQUARE, x -> x.normal(-1), 2);
        no(SQUARE, x -> x.normal(LEAST), 2);
        no(SQUARE, x -> x.normal(MOST), 2);
        due(SIX_MOVES, x -> x.normal(32), 1);
        due(SIX_MOVES, x -> x.normal(24), 1);
        due(SIX_MOVES, x -> x.normal(1), 0);
        no(SIX_MOVES, x -> x.normal(64), 2);
        due(TWO, x -> x.normal(0), 1);
        no(TWO, x -> x.normal(1), 2);
    }

    private void neededMoves() {
        says(41, "MOVES without each of which alone THE GROUP would be as it is: none, all");
        due(TWO, x -> x.spare(), 0);
        due(STILL, x -> x.spare(), 1);
        due(SWAP, x -> x.spare(), 0);
        due(SQUARE, x -> x.spare(), 0);
        due(SIX_MOVES, x -> x.spare(), 63);
        due("points 3;move a (0 1);move b (0 1);", x -> x.spare(), 3);
        due(S10, x -> x.spare(), 0);

        says(42, "The fewest MOVES by which THE GROUP is as it is: none, all");
        due(TWO, x -> x.fewest(), 0);
        due(STILL, x -> x.fewest(), 0);
        due(SWAP, x -> x.fewest(), 1);
        due(SQUARE, x -> x.fewest(), 3);
        due("points 10;move a(0 1);move b(2 3);move c(4 5);move d(6 7);move e(8 9);", x -> x.fewest(), 31);
        due("points 10;move z(0);move a(0 1);move b(2 3);move c(4 5);move d(6 7);move e(8 9);", x -> x.fewest(), 62);

        says(42, "of several the least");
        due(SIX_MOVES, x -> x.fewest(), 3);
        due("points 3;move a (0 1);move b (0 1);", x -> x.fewest(), 1);
        due("points 6;move a (0 1);move b (2 3 4);move c (0 1)(2 3 4);", x -> x.fewest(), 4);
        due("points 4;move a (0 1 2 3);word b a a;word c a';", x -> x.fewest(), 1);
    }

    private void sets() {
        says(43, "a SET (bits) that is empty, or has others, is 2");
        due(SQUARE, x -> x.holds(1), 2);
        due(SQUARE, x -> x.holds(8), 2);
        due(SQUARE, x -> x.holds(10), 2);
        due(SQUARE, x -> x.holds(15), 1);
        no(SQUARE, x -> x.holds(0), 2);
        no(SQUARE, x -> x.holds(16), 2);
        no(SQUARE, x -> x.holds(17), 2);
        no(SQUARE, x -> x.holds(-1), 2);
        no(SQUARE, x -> x.holds(LEAST), 2);
        no(SQUARE, x -> x.holds(MOST), 2);
        due(S10, x -> x.holds(512), 362880);
        due(S10, x -> x.holds(1023), 1);
        no(S10, x -> x.holds(1024), 2);
        due(TWO, x -> x.holds(3), 1);
        no(TWO, x -> x.holds(4), 2);

        says(44, "a SET that is empty, or has others, is 2");
        due(SQUARE, x -> x.keeps(1), 2);
        due(SQUARE, x -> x.keeps(5), 4);
        due(SQUARE, x -> x.keeps(3), 2);
        due(SQUARE, x -> x.keeps(7), 2);
        due(SQUARE, x -> x.keeps(15), 8);
        no(SQUARE, x -> x.keeps(0), 2);
        no(SQUARE, x -> x.keeps(16), 2);
        no(SQUARE, x -> x.keeps(31), 2);
        no(SQUARE, x -> x.keeps(-1), 2);
        no(SQUARE, x -> x.keeps(LEAST), 2);
        due(C30, x -> x.keeps(1023), 30);
        no(C30, x -> x.keeps(1024), 2);
        due(TWO, x -> x.keeps(3), 1);

        says(45, "either SET may be empty, or have others: 2");
        due(SQUARE, x -> x.brings(1, 2), 2);
        due(SQUARE, x -> x.brings(15, 15), 0);
        due(SQUARE, x -> x.brings(5, 10), 2);
        due(SQUARE, x -> x.brings(8, 8), 0);
        no(SQUARE, x -> x.brings(0, 1), 2);
        no(SQUARE, x -> x.brings(1, 0), 2);
        no(SQUARE, x -> x.brings(0, 0), 2);
        no(SQUARE, x -> x.brings(16, 1), 2);
        no(SQUARE, x -> x.brings(1, 16), 2);
        no(SQUARE, x -> x.brings(-1, 1), 2);
        no(SQUARE, x -> x.brings(1, LEAST), 2);
        due(C30, x -> x.brings(512, 512), 0);
        no(C30, x -> x.brings(1024, 1024), 2);

        says(45, "5: none does");
        no(SQUARE, x -> x.brings(5, 3), 5);
        no(SQUARE, x -> x.brings(1, 3), 5);
        no(SQUARE, x -> x.brings(3, 1), 5);
        no(SQUARE, x -> x.brings(15, 7), 5);
        no(TWO, x -> x.brings(1, 2), 5);
        due(TWO, x -> x.brings(2, 2), 0);
        due(SWAP, x -> x.brings(1, 2), 1);
    }

    private void blocks() {
        says(46, "BLOCK of two POINTS; no such POINT is 2");
        due(SQUARE, x -> x.block(0, 2), 5);
        due(SQUARE, x -> x.block(3, 1), 10);
        due(SQUARE, x -> x.block(0, 3), 15);
        due(SQUARE, x -> x.block(3, 0), 15);
        no(SQUARE, x -> x.block(0, 4), 2);
        no(SQUARE, x -> x.block(4, 0), 2);
        no(SQUARE, x -> x.block(0, -1), 2);
        no(SQUARE, x -> x.block(-1, 0), 2);
        no(SQUARE, x -> x.block(LEAST, MOST), 2);
        due(TEN, x -> x.block(9, 8), 768);
        no(TEN, x -> x.block(9, 10), 2);

        says(46, "4: they are one");
        no(SQUARE, x -> x.block(0, 0), 4);
        no(SQUARE, x -> x.block(3, 3), 4);
        no(TEN, x -> x.block(9, 9), 4);
        no(SQUARE, x -> x.block(4, 4), 2);
        no(SQUARE, x -> x.block(-1, -1), 2);

        says(46, "the least set with both, where THE GROUP does not take one to the other");
        due(TWO, x -> x.block(0, 1), 3);
        due("points 4;move a (0 1);", x -> x.block(2, 3), 12);
        due("points 4;move a (0 1);", x -> x.block(0, 2), 7);
        due("points 4;move a (0 1);", x -> x.block(0, 1), 3);
        due("points 6;move a (0 1 2)(3 4 5);", x -> x.block(0, 3), 9);
        due("points 6;move a (0 1 2)(3 4 5);", x -> x.block(5, 0), 33);
        due("points 8;move a (0 1 2 3)(4 5 6 7);", x -> x.block(0, 4), 17);
        due("points 8;move a (0 1 2 3 4 5 6 7);", x -> x.block(0, 4), 17);
        due("points 8;move a (0 1 2 3 4 5 6 7);", x -> x.block(0, 6), 85);
        due("points 8;move a (0 1 2 3 4 5 6 7);", x -> x.block(0, 5), 255);

        says(47, "the most t (0: not even one)");
        due(TWO, x -> x.anywhere(), 0);
        due(SWAP, x -> x.anywhere(), 2);
        due("points 3;move a (0 1);", x -> x.anywhere(), 0);
        due("points 3;move a (0 1 2);", x -> x.anywhere(), 1);
        due("points 3;move a (1 2);move b (0 1);", x -> x.anywhere(), 3);
        due(A5, x -> x.anywhere(), 3);
        due(SQUARE, x -> x.anywhere(), 1);
        due(S10, x -> x.anywhere(), 10);
        due("points 4;move a (1 2 3);move b (1 2);", x -> x.anywhere(), 0);
    }

    // ---- promises 48 to 53

    private void counted() {
        says(48, "n POINTS (0 to 10) (1)");
        due(SQUARE, x -> x.fixing(0), 5);
        due(SQUARE, x -> x.fixing(2), 2);
        due(SQUARE, x -> x.fixing(4), 1);
        due(SQUARE, x -> x.fixing(10), 0);
        no(SQUARE, x -> x.fixing(11), 1);
        no(SQUARE, x -> x.fixing(-1), 1);
        no(SQUARE, x -> x.fixing(LEAST), 1);
        no(SQUARE, x -> x.fixing(MOST), 1);
        due(TEN, x -> x.fixing(10), 1);
        no(TEN, x -> x.fixing(11), 1);
        due(TEN, x -> x.fixing(0), 0);

        says(48, "just n: none is a number of them, too");
        due(SQUARE, x -> x.fixing(1), 0);
        due(SQUARE, x -> x.fixing(3), 0);
        due(SQUARE, x -> x.fixing(5), 0);

        says(49, "k COLOURS (1 to 5) (1)");
        due(SQUARE, x -> x.colours(1), 1);
        due(SQUARE, x -> x.colours(2), 6);
        due(SQUARE, x -> x.colours(5), 120);
        no(SQUARE, x -> x.colours(0), 1);
        no(SQUARE, x -> x.colours(6), 1);
        no(SQUARE, x -> x.colours(-1), 1);
        no(SQUARE, x -> x.colours(LEAST), 1);
        no(SQUARE, x -> x.colours(MOST), 1);
        due(TEN, x -> x.colours(5), 9765625);
        due(TEN, x -> x.colours(1), 1);
        due(TWO, x -> x.colours(5), 25);
        due(SWAP, x -> x.colours(5), 15);

        says(50, "as many CYCLES of each length as an ARRANGEMENT: also one that is not in THE GROUP");
        due(SQUARE, x -> x.typed(2103), 2);
        due(SQUARE, x -> x.typed(1023), 2);
        due(SQUARE, x -> x.typed(1032), 3);
        due(SQUARE, x -> x.typed(123), 1);
        due(SQUARE, x -> x.typed(1203), 0);
        due(TEN, x -> x.typed(HOME_10), 1);
        due(TEN, x -> x.typed(BACKWARDS), 0);
        no(SQUARE, x -> x.typed(1204), 1);
        no(SQUARE, x -> x.typed(-1), 1);

        says(52, "The fewest POINTS that something moves, HOME aside; 5: there is HOME alone");
        due(SWAP, x -> x.slightest(), 2);
        due(SQUARE, x -> x.slightest(), 2);
        due(A5, x -> x.slightest(), 3);
        due("points 10;move a (0 1 2 3 4 5 6 7 8 9);", x -> x.slightest(), 10);
        due(C30, x -> x.slightest(), 2);
        no(TWO, x -> x.slightest(), 5);
        no(STILL, x -> x.slightest(), 5);

        says(53, "1: below 1");
        due(SQUARE, x -> x.ofOrder(1), 1);
        no(SQUARE, x -> x.ofOrder(0), 1);
        no(SQUARE, x -> x.ofOrder(-1), 1);
        no(SQUARE, x -> x.ofOrder(LEAST), 1);

        says(53, "5: none have");
        due(SQUARE, x -> x.ofOrder(2), 5);
        no(SQUARE, x -> x.ofOrder(3), 5);
        due(SQUARE, x -> x.ofOrder(4), 2);
        no(SQUARE, x -> x.ofOrder(5), 5);
        no(SQUARE, x -> x.ofOrder(8), 5);
        no(SQUARE, x -> x.ofOrder(MOST), 5);
        due(C30, x -> x.ofOrder(30), 8);
        no(C30, x -> x.ofOrder(31), 5);
        due(TWO, x -> x.ofOrder(1), 1);
        no(TWO, x -> x.ofOrder(2), 5);
    }

    private void roots() {
        says(51, "POWER k (1 to 1,000) (1)");
        due(SQUARE, x -> x.root(1230, 1), 3);
        due(SQUARE, x -> x.root(123, 1000), 0);
        due(SQUARE, x -> x.root(1230, 997), 3);
        due(SQUARE, x -> x.root(1230, 999), 6);
        no(SQUARE, x -> x.root(1230, 0), 1);
        no(SQUARE, x -> x.root(123, 1001), 1);
        no(SQUARE, x -> x.root(123, 0), 1);
        no(SQUARE, x -> x.root(123, -1), 1);
        no(SQUARE, x -> x.root(123, LEAST), 1);
        no(SQUARE, x -> x.root(123, MOST), 1);
        no(SQUARE, x -> x.root(124, 1), 1);

        says(51, "5: none");
        due(SQUARE, x -> x.root(2301, 2), 3);
        no(SQUARE, x -> x.root(1230, 2), 5);
        no(SQUARE, x -> x.root(2301, 1000), 5);
        no(SQUARE, x -> x.root(132, 1), 5);
        no(TWO, x -> x.root(10, 1), 5);
        due(TWO, x -> x.root(1, 1), 0);

        says(51, "The first ARRANGEMENT of which it is");
        due(SQUARE, x -> x.root(123, 2), 0);
        due("points 4;move a (0 1 2 3);", x -> x.root(2301, 2), 1);
        due(C30, x -> x.root(HOME_10, 30), 0);
    }

    // ---- where it is asked of all of them, one by one

    private void smallAtFiveThousandForty() {
        says(18, "ORDER may be 5,040 at most (else 3: SMALL is asked)");
        due(S7, x -> x.order(), 5040);
        due(A7_2, x -> x.order(), 5040);
        due(S6_D4, x -> x.order(), 5760);

        says(23, "SMALL: 5,040 is so");
        due(S7, x -> x.way(1234560, -1), 1);
        due(S7, x -> x.way(1023456, 0), 2);
        says(24, "SMALL: 5,040 is so");
        due(S7, x -> x.deep(0), 1);
        due(S7, x -> x.deep(1), 3);
        says(25, "SMALL: 5,040 is so");
        due(S7, x -> x.way(x.nth(x.deepest(1)), -1) - x.deepest(0), 0);
        no(S7, x -> x.deep(x.deepest(0) + 1), 5);
        says(26, "SMALL: 5,040 is so");
        due(S7, x -> 5040 % x.mean(1), 0);
        due(S7, x -> sumOfDepths(x) - x.mean(0) * (5040 / x.mean(1)), 0);
        says(27, "SMALL: 5,040 is so");
        given(x -> x.turn(0));
        due(S7, x -> x.nearer(), 2);
        says(28, "SMALL: 5,040 is so");
        given(x -> x.turn(0));
        due(S7, x -> x.solve(0), 1);
        says(29, "SMALL: 5,040 is so");
        due(S7, x -> x.centre(-1), 1);
        says(30, "SMALL: 5,040 is so");
        due(S7, x -> x.classes(), 15);
        says(31, "SMALL: 5,040 is so");
        due(S7, x -> x.alike(1023456), 21);
        due(S7, x -> x.alike(1234560), 720);
        says(36, "SMALL: 5,040 is so");
        due(S7, x -> x.same(1023456, 123465), 1);
        due(S7, x -> x.same(1023456, 1203456), 0);
        says(39, "SMALL: 5,040 is so");
        due(S7, x -> x.meet(1, 2), 1);
        due(S7, x -> x.meet(3, 3), 5040);
        says(44, "SMALL: 5,040 is so");
        due(S7, x -> x.keeps(7), 144);
        due(S7, x -> x.keeps(127), 5040);
        says(45, "SMALL: 5,040 is so");
        due(S7, x -> x.brings(1, 64), 4320);
        due(S7, x -> x.brings(64, 1), 873);
        says(48, "SMALL: 5,040 is so");
        due(S7, x -> x.fixing(0), 1854);
        due(S7, x -> x.fixing(5), 21);
        due(S7, x -> x.fixing(6), 0);
        due(S7, x -> x.fixing(7), 1);
        says(49, "SMALL: 5,040 is so");
        due(S7, x -> x.colours(2), 8);
        due(S7, x -> x.colours(5), 330);
        says(50, "SMALL: 5,040 is so");
        due(S7, x -> x.typed(1023456), 21);
        says(51, "SMALL: 5,040 is so");
        due(S7, x -> x.root(1234560, 2), 3456);
        due(S7, x -> x.root(HOME_7, 420), 0);
        says(52, "SMALL: 5,040 is so");
        due(S7, x -> x.slightest(), 2);
        says(53, "SMALL: 5,040 is so");
        due(S7, x -> x.ofOrder(7), 720);
        due(S7, x -> x.ofOrder(12), 420);
        no(S7, x -> x.ofOrder(13), 5);
    }

    private static long sumOfDepths(MoveGroups x) {
        int deepest = x.deepest(0);
        long sum = 0;
        for (int i = 1; i <= deepest; i++) {
            sum += (long) i * x.deep(i);
        }
        return sum;
    }

    private void smallInAnotherGroup() {
        says(29, "SMALL: 5,040 of A7 and two POINTS");
        due(A7_2, x -> x.centre(-1), 2);
        due(A7_2, x -> x.centre(1), 1);
        says(30, "SMALL: 5,040 of A7 and two POINTS");
        due(A7_2, x -> x.classes(), 18);
        says(48, "SMALL: 5,040 of A7 and two POINTS");
        due(A7_2, x -> x.fixing(7), 1);
        due(A7_2, x -> x.fixing(9), 1);
        says(52, "SMALL: 5,040 of A7 and two POINTS");
        due(A7_2, x -> x.slightest(), 2);
        says(53, "SMALL: 5,040 of A7 and two POINTS");
        due(A7_2, x -> x.ofOrder(14), 720);

        says(18, "ORDER above 5,040 comes and goes with a MOVE");
        given(x -> x.add(1023456789));
        due(TEN.concat("move a (0 1 2 3 4 5 6);"), x -> x.classes(), 15);
        given(x -> x.add(1023456789) + x.add(123456798));
        no(TEN.concat("move a (0 1 2 3 4 5 6);"), x -> x.classes(), 3);
        given(x -> x.add(1023456789) + x.add(123456798) + x.undo());
        due(TEN.concat("move a (0 1 2 3 4 5 6);"), x -> x.classes(), 15);
        given(x -> x.add(1023456789) + x.add(123456798) + x.drop(1));
        due(TEN.concat("move a (0 1 2 3 4 5 6);"), x -> x.classes(), 14);
    }

    private void noLongerSmall() {
        long home = HOME_10;
        String[] groups = {S6_D4, S10};
        for (String group : groups) {
            says(23, "3: SMALL");
            no(group, x -> x.way(home, -1), 3);
            no(group, x -> x.way(home, 0), 3);
            says(24, "3: SMALL");
            no(group, x -> x.deep(0), 3);
            says(25, "3: SMALL");
            no(group, x -> x.deepest(0), 3);
            no(group, x -> x.deepest(1), 3);
            says(26, "3: SMALL");
            no(group, x -> x.mean(0), 3);
            no(group, x -> x.mean(1), 3);
            says(27, "3: SMALL");
            no(group, x -> x.nearer(), 3);
            says(28, "3: SMALL");
            no(group, x -> x.solve(-1), 3);
            no(group, x -> x.solve(0), 3);
            says(29, "3: SMALL");
            no(group, x -> x.centre(-1), 3);
            no(group, x -> x.centre(0), 3);
            says(30, "3: SMALL");
            no(group, x -> x.classes(), 3);
            says(31, "3: SMALL");
            no(group, x -> x.alike(home), 3);
            says(36, "3: SMALL");
            no(group, x -> x.same(home, home), 3);
            says(39, "3: SMALL");
            no(group, x -> x.meet(0, 0), 3);
            no(group, x -> x.meet(1, 2), 3);
            says(44, "3: SMALL");
            no(group, x -> x.keeps(1), 3);
            says(45, "3: SMALL");
            no(group, x -> x.brings(1, 1), 3);
            says(48, "3: SMALL");
            no(group, x -> x.fixing(10), 3);
            says(49, "3: SMALL");
            no(group, x -> x.colours(1), 3);
            says(50, "3: SMALL");
            no(group, x -> x.typed(home), 3);
            says(51, "3: SMALL");
            no(group, x -> x.root(home, 1), 3);
            says(52, "3: SMALL");
            no(group, x -> x.slightest(), 3);
            says(53, "3: SMALL");
            no(group, x -> x.ofOrder(1), 3);
        }
    }

    private void whatNeedsNotBeSmall() {
        says(14, "SMALL is not asked");
        due(S6_D4, x -> x.orbit(9), 960);
        says(15, "SMALL is not asked");
        due(S6_D4, x -> x.orbits(), 2);
        says(20, "SMALL is not asked");
        due(S6_D4, x -> x.followed(123456798), 8);
        says(21, "SMALL is not asked");
        due(S6_D4, x -> x.nth(5759), 5432109876L);
        no(S6_D4, x -> x.nth(5760), 5);
        says(22, "SMALL is not asked");
        due(S6_D4, x -> x.rank(5432109876L), 5759);
        no(S6_D4, x -> x.rank(123456798), 6);
        says(32, "SMALL is not asked");
        due(S6_D4, x -> x.derived(1), 720);
        due(S6_D4, x -> x.derived(2), 360);
        no(S6_D4, x -> x.derived(3), 5);
        says(37, "SMALL is not asked");
        due(S6_D4, x -> x.central(1), 720);
        due(S6_D4, x -> x.central(2), 360);
        no(S6_D4, x -> x.central(3), 5);
        says(33, "SMALL is not asked");
        due(S6_D4, x -> x.has(1), 0);
        due(S6_D4, x -> x.has(3), 0);
        says(38, "SMALL is not asked");
        due(S6_D4, x -> x.by(7), 2880);
        due(S6_D4, x -> x.by(15), 5760);
        says(40, "SMALL is not asked");
        due(S6_D4, x -> x.normal(3), 1);
        due(S6_D4, x -> x.normal(1), 0);
        says(41, "SMALL is not asked");
        due(S6_D4, x -> x.spare(), 0);
        says(42, "SMALL is not asked");
        due(S6_D4, x -> x.fewest(), 15);
        says(43, "SMALL is not asked");
        due(S6_D4, x -> x.holds(960), 720);
        says(46, "SMALL is not asked");
        due(S6_D4, x -> x.block(6, 8), 320);
        says(47, "SMALL is not asked");
        due(A8, x -> x.anywhere(), 6);
    }

    // ---- STATUS is the first of these that holds

    private void firstStatus() {
        says(9, "1 is ahead of 2");
        no(SQUARE, x -> x.takes(124, 4), 1);
        no(SQUARE, x -> x.takes(-1, -1), 1);

        says(23, "1 is ahead of 3 and 6");
        no(S10, x -> x.way(0, -1), 1);
        no(S10, x -> x.way(HOME_10, -2), 1);
        no(SQUARE, x -> x.way(132, -2), 1);
        says(24, "1 is ahead of 3");
        no(S10, x -> x.deep(-1), 1);
        says(25, "1 is ahead of 3");
        no(S10, x -> x.deepest(2), 1);
        says(26, "1 is ahead of 3");
        no(S10, x -> x.mean(2), 1);
        says(28, "1 is ahead of 3");
        no(S10, x -> x.solve(-2), 1);
        says(29, "1 is ahead of 3");
        no(S10, x -> x.centre(-2), 1);
        says(31, "1 is ahead of 3");
        no(S10, x -> x.alike(0), 1);
        says(36, "1 is ahead of 3");
        no(S10, x -> x.same(0, HOME_10), 1);
        no(S10, x -> x.same(HOME_10, 0), 1);
        says(48, "1 is ahead of 3");
        no(S10, x -> x.fixing(11), 1);
        no(S10, x -> x.fixing(-1), 1);
        says(49, "1 is ahead of 3");
        no(S10, x -> x.colours(0), 1);
        no(S10, x -> x.colours(6), 1);
        says(50, "1 is ahead of 3");
        no(S10, x -> x.typed(0), 1);
        says(51, "1 is ahead of 3");
        no(S10, x -> x.root(0, 1), 1);
        no(S10, x -> x.root(HOME_10, 0), 1);
        no(S10, x -> x.root(HOME_10, 1001), 1);
        says(53, "1 is ahead of 3");
        no(S10, x -> x.ofOrder(0), 1);
        says(57, "1 is ahead of 3");
        no(SIX_MOVES, x -> x.add(11), 1);

        says(39, "2 is ahead of 3");
        no(S10, x -> x.meet(4, 0), 2);
        no(S10, x -> x.meet(0, 4), 2);
        says(44, "2 is ahead of 3");
        no(S10, x -> x.keeps(0), 2);
        no(S10, x -> x.keeps(1024), 2);
        says(45, "2 is ahead of 3");
        no(S10, x -> x.brings(0, 1), 2);
        no(S10, x -> x.brings(1, 1024), 2);
        says(46, "2 is ahead of 4");
        no(SQUARE, x -> x.block(4, 4), 2);

        says(23, "3 is ahead of 5 and 6");
        no(A8, x -> x.way(10234567, -1), 3);
        no(A8, x -> x.way(1234567, 0), 3);
        says(24, "3 is ahead of 5");
        no(S10, x -> x.deep(MOST), 3);
        says(27, "3 is ahead of 6");
        given(x -> x.place(10234567));
        no(A8, x -> x.nearer(), 3);
        says(28, "3 is ahead of 5 and 6");
        no(A8, x -> x.solve(0), 3);
        given(x -> x.place(10234567));
        no(A8, x -> x.solve(-1), 3);
        says(29, "3 is ahead of 5");
        no(S10, x -> x.centre(MOST), 3);
        says(31, "3 is ahead of 6");
        no(A8, x -> x.alike(10234567), 3);
        says(36, "3 is ahead of 6");
        no(A8, x -> x.same(10234567, 1234567), 3);
        says(45, "3 is ahead of 5");
        no(S10, x -> x.brings(1, 3), 3);
        says(51, "3 is ahead of 5");
        no(A8, x -> x.root(10234567, 1), 3);
        says(53, "3 is ahead of 5");
        no(S10, x -> x.ofOrder(MOST), 3);
    }

    /** Without POINTS no number is an ARRANGEMENT, and no POINT, SET, STEP is there: 1 and 2 are ahead of 5. */
    private void withoutPoints() {
        says(8, "5: no POINTS");
        no(NO_PUZZLE, x -> x.stand(), 5);
        says(15, "5: no POINTS");
        no(NO_PUZZLE, x -> x.orbits(), 5);
        says(16, "5: no POINTS, behind 1");
        no(NO_PUZZLE, x -> x.base(-1), 5);
        no(NO_PUZZLE, x -> x.base(0), 5);
        no(NO_PUZZLE, x -> x.base(-2), 1);
        says(17, "5: no POINTS, behind 1");
        no(NO_PUZZLE, x -> x.level(0), 5);
        no(NO_PUZZLE, x -> x.level(-1), 1);
        says(18, "5: no POINTS");
        no(NO_PUZZLE, x -> x.order(), 5);
        says(21, "5: no POINTS, behind 1");
        no(NO_PUZZLE, x -> x.nth(0), 5);
        no(NO_PUZZLE, x -> x.nth(-1), 1);
        says(24, "5: no POINTS, behind 1");
        no(NO_PUZZLE, x -> x.deep(0), 5);
        no(NO_PUZZLE, x -> x.deep(-1), 1);
        says(25, "5: no POINTS, behind 1");
        no(NO_PUZZLE, x -> x.deepest(0), 5);
        no(NO_PUZZLE, x -> x.deepest(1), 5);
        no(NO_PUZZLE, x -> x.deepest(2), 1);
        says(26, "5: no POINTS, behind 1");
        no(NO_PUZZLE, x -> x.mean(0), 5);
        no(NO_PUZZLE, x -> x.mean(1), 5);
        no(NO_PUZZLE, x -> x.mean(-1), 1);
        says(27, "5: no POINTS");
        no(NO_PUZZLE, x -> x.nearer(), 5);
        says(28, "5: no POINTS, behind 1");
        no(NO_PUZZLE, x -> x.solve(-1), 5);
        no(NO_PUZZLE, x -> x.solve(0), 5);
        no(NO_PUZZLE, x -> x.solve(-2), 1);
        says(29, "5: no POINTS, behind 1");
        no(NO_PUZZLE, x -> x.centre(-1), 5);
        no(NO_PUZZLE, x -> x.centre(0), 5);
        no(NO_PUZZLE, x -> x.centre(-2), 1);
        says(30, "5: no POINTS");
        no(NO_PUZZLE, x -> x.classes(), 5);
        says(32, "5: no POINTS, behind 1");
        no(NO_PUZZLE, x -> x.derived(0), 5);
        no(NO_PUZZLE, x -> x.derived(-1), 1);
        says(33, "5: no POINTS, behind 1");
        for (int what = 0; what <= 3; what++) {
            int asked = what;
            no(NO_PUZZLE, x -> x.has(asked), 5);
        }
        no(NO_PUZZLE, x -> x.has(4), 1);
        says(37, "5: no POINTS, behind 1");
        no(NO_PUZZLE, x -> x.central(0), 5);
        no(NO_PUZZLE, x -> x.central(-1), 1);
        partsWithoutPoints();
        countedWithoutPoints();
        arrangementsWithoutPoints();
    }

    private void partsWithoutPoints() {
        says(38, "no POINTS: 5 behind 2");
        no(NO_PUZZLE, x -> x.by(0), 5);
        no(NO_PUZZLE, x -> x.by(1), 2);
        says(39, "5: no POINTS, behind 2");
        no(NO_PUZZLE, x -> x.meet(0, 0), 5);
        no(NO_PUZZLE, x -> x.meet(1, 0), 2);
        no(NO_PUZZLE, x -> x.meet(0, 1), 2);
        says(40, "5: no POINTS, behind 2");
        no(NO_PUZZLE, x -> x.normal(0), 5);
        no(NO_PUZZLE, x -> x.normal(1), 2);
        says(41, "5: no POINTS");
        no(NO_PUZZLE, x -> x.spare(), 5);
        says(42, "5: no POINTS");
        no(NO_PUZZLE, x -> x.fewest(), 5);
        says(43, "no POINTS: 2, as every SET is empty or has others");
        no(NO_PUZZLE, x -> x.holds(0), 2);
        no(NO_PUZZLE, x -> x.holds(1), 2);
        says(44, "no POINTS: 2, as every SET is empty or has others");
        no(NO_PUZZLE, x -> x.keeps(0), 2);
        no(NO_PUZZLE, x -> x.keeps(1), 2);
        says(45, "no POINTS: 2, as every SET is empty or has others");
        no(NO_PUZZLE, x -> x.brings(0, 0), 2);
        no(NO_PUZZLE, x -> x.brings(1, 1), 2);
        says(46, "no POINTS: 2, as there is no such POINT");
        no(NO_PUZZLE, x -> x.block(0, 1), 2);
        no(NO_PUZZLE, x -> x.block(0, 0), 2);
        says(47, "5: no POINTS");
        no(NO_PUZZLE, x -> x.anywhere(), 5);
    }

    private void countedWithoutPoints() {
        says(48, "5: no POINTS, behind 1");
        no(NO_PUZZLE, x -> x.fixing(0), 5);
        no(NO_PUZZLE, x -> x.fixing(10), 5);
        no(NO_PUZZLE, x -> x.fixing(11), 1);
        says(49, "5: no POINTS, behind 1");
        no(NO_PUZZLE, x -> x.colours(1), 5);
        no(NO_PUZZLE, x -> x.colours(6), 1);
        says(52, "5: no POINTS");
        no(NO_PUZZLE, x -> x.slightest(), 5);
        says(53, "5: no POINTS, behind 1");
        no(NO_PUZZLE, x -> x.ofOrder(1), 5);
        no(NO_PUZZLE, x -> x.ofOrder(0), 1);
        says(7, "no POINTS: 2, as there is no such STEP");
        no(NO_PUZZLE, x -> x.step(0), 2);
        says(14, "no POINTS: 2, as there is no such POINT");
        no(NO_PUZZLE, x -> x.orbit(0), 2);
        says(54, "no POINTS: 2, as there is no such STEP");
        no(NO_PUZZLE, x -> x.turn(0), 2);
        says(56, "5: no POINTS");
        no(NO_PUZZLE, x -> x.home(), 5);
        says(58, "no POINTS: 2, as there is no such MOVE");
        no(NO_PUZZLE, x -> x.drop(0), 2);
        says(59, "5: there is none");
        no(NO_PUZZLE, x -> x.undo(), 5);
        says(61, "5: there is none yet");
        no(NO_PUZZLE, x -> x.out(0), 5);
        no(NO_PUZZLE, x -> x.out(-1), 1);
    }

    private void arrangementsWithoutPoints() {
        for (long number : new long[] {0, 1, 10, HOME_10, -1}) {
            says(9, "no POINTS: 1, as no number is an ARRANGEMENT");
            no(NO_PUZZLE, x -> x.takes(number, 0), 1);
            says(10, "no POINTS: 1, as no number is an ARRANGEMENT");
            no(NO_PUZZLE, x -> x.product(number, number), 1);
            says(11, "no POINTS: 1, as no number is an ARRANGEMENT");
            no(NO_PUZZLE, x -> x.inverse(number), 1);
            says(12, "no POINTS: 1, as no number is an ARRANGEMENT");
            no(NO_PUZZLE, x -> x.power(number, 0), 1);
            says(13, "no POINTS: 1, as no number is an ARRANGEMENT");
            no(NO_PUZZLE, x -> x.about(number, 0), 1);
            says(19, "no POINTS: 1, as no number is an ARRANGEMENT");
            no(NO_PUZZLE, x -> x.member(number), 1);
            says(20, "no POINTS: 1, as no number is an ARRANGEMENT");
            no(NO_PUZZLE, x -> x.followed(number), 1);
            says(22, "no POINTS: 1, as no number is an ARRANGEMENT");
            no(NO_PUZZLE, x -> x.rank(number), 1);
            says(23, "no POINTS: 1, as no number is an ARRANGEMENT");
            no(NO_PUZZLE, x -> x.way(number, -1), 1);
            says(31, "no POINTS: 1, as no number is an ARRANGEMENT");
            no(NO_PUZZLE, x -> x.alike(number), 1);
            says(34, "no POINTS: 1, as no number is an ARRANGEMENT");
            no(NO_PUZZLE, x -> x.commutator(number, number), 1);
            says(35, "no POINTS: 1, as no number is an ARRANGEMENT");
            no(NO_PUZZLE, x -> x.turned(number, number), 1);
            says(36, "no POINTS: 1, as no number is an ARRANGEMENT");
            no(NO_PUZZLE, x -> x.same(number, number), 1);
            says(50, "no POINTS: 1, as no number is an ARRANGEMENT");
            no(NO_PUZZLE, x -> x.typed(number), 1);
            says(51, "no POINTS: 1, as no number is an ARRANGEMENT");
            no(NO_PUZZLE, x -> x.root(number, 1), 1);
            says(55, "no POINTS: 1, as no number is an ARRANGEMENT");
            no(NO_PUZZLE, x -> x.place(number), 1);
            says(57, "no POINTS: 1, as no number is an ARRANGEMENT");
            no(NO_PUZZLE, x -> x.add(number), 1);
            says(60, "no POINTS: 1, as no number is an ARRANGEMENT");
            no(NO_PUZZLE, x -> x.print(number), 1);
        }
    }

    // ---- promises 54 to 61

    private void turnAndPlace() {
        says(54, "no such STEP is 2");
        no(SQUARE, x -> x.turn(4), 2);
        no(SQUARE, x -> x.turn(-1), 2);
        no(SQUARE, x -> x.turn(LEAST), 2);
        no(SQUARE, x -> x.turn(MOST), 2);
        no(TWO, x -> x.turn(0), 2);
        no(SIX_MOVES, x -> x.turn(12), 2);
        x = fresh(SQUARE);
        is(x.turn(3), 2);
        is(x.stand(), 2103);
        x = fresh(SIX_MOVES);
        is(x.turn(11), 3);
        is(x.stand(), 12);
        is(x.turn(9), 0);
        is(x.stand(), 120);

        says(54, "how many POINTS stay where they are at HOME: none, all");
        x = fresh(SQUARE);
        is(x.turn(0), 0);
        is(x.turn(1), 4);
        is(x.turn(2), 2);
        is(x.turn(2), 4);
        x = fresh(STILL);
        is(x.turn(0), 3);
        is(x.many(2), 1);

        says(55, "4: THE STAND is it already");
        no(SQUARE, x -> x.place(123), 4);
        given(x -> x.place(132));
        no(SQUARE, x -> x.place(132), 4);
        given(x -> x.turn(0));
        no(SQUARE, x -> x.place(1230), 4);

        says(55, "1: an ARRANGEMENT that is none");
        no(SQUARE, x -> x.place(122), 1);
        no(SQUARE, x -> x.place(10123), 1);
        no(SQUARE, x -> x.place(-123), 1);

        says(55, "FOLLOWED of it, also of one that is not in THE GROUP");
        x = fresh(SQUARE);
        is(x.place(132), 2);
        is(x.place(123), 4);
        is(x.place(1230), 4);
        is(x.place(1203), 2);
        is(x.stand(), 1203);
        x = fresh(TWO);
        is(x.place(10), 0);
        is(x.place(1), 2);
        is(x.many(2), 2);
    }

    private void homeAddDrop() {
        says(56, "4: THE STAND is HOME already");
        no(SQUARE, x -> x.home(), 4);
        no(TEN, x -> x.home(), 4);

        says(56, "how many POINTS were not");
        x = fresh(TEN);
        is(x.place(1023456789), 0);
        is(x.home(), 2);
        is(x.place(BACKWARDS), 0);
        is(x.home(), 10);
        is(x.stand(), HOME_10);
        refused(x.home(), 4);
        is(x.many(2), 4);

        says(57, "3: there are 6");
        x = fresh("points 3;move a(0 1);move b(1 2);move c(0 2);move d(0 1 2);move e(0 2 1);");
        is(x.add(12), 6);
        is(x.many(1), 6);
        is(x.step(10), 12);
        refused(x.add(12), 3);
        is(x.drop(5), 6);
        is(x.add(120), 6);
        refused(x.add(120), 3);
        no(SIX_MOVES, x -> x.add(12), 3);
        no(SIX_MOVES, x -> x.add(210), 3);
        no(SQUARE, x -> x.add(124), 1);
        no(SQUARE, x -> x.add(-1), 1);

        says(57, "comes as a MOVE behind all, also one that is there: ORDER then");
        x = fresh(TWO);
        is(x.add(1), 1);
        is(x.add(10), 2);
        is(x.add(10), 2);
        is(x.many(1), 3);
        is(x.step(4), 10);
        refused(x.step(6), 2);
        x = fresh("points 10;move a (0 1 2 3 4 5 6 7 8 9);");
        is(x.add(1023456789), 3628800);

        says(58, "no such MOVE is 2");
        no(SQUARE, x -> x.drop(2), 2);
        no(SQUARE, x -> x.drop(-1), 2);
        no(SQUARE, x -> x.drop(LEAST), 2);
        no(SQUARE, x -> x.drop(MOST), 2);
        no(TWO, x -> x.drop(0), 2);
        no(SIX_MOVES, x -> x.drop(6), 2);

        says(58, "those behind it come up by one number: ORDER then");
        x = fresh(SIX_MOVES);
        is(x.drop(5), 6);
        is(x.drop(0), 6);
        is(x.step(0), 21);
        is(x.step(2), 210);
        is(x.step(4), 120);
        is(x.step(6), 201);
        refused(x.step(8), 2);
        is(x.drop(1), 6);
        is(x.drop(0), 3);
        is(x.drop(1), 3);
        is(x.step(0), 120);
        is(x.drop(0), 1);
        is(x.many(1), 0);
        refused(x.drop(0), 2);

        says(58, "THE STAND stays, also outside THE GROUP");
        x = fresh(SQUARE);
        is(x.turn(0), 0);
        is(x.drop(0), 2);
        is(x.stand(), 1230);
        refused(x.solve(-1), 6);
        is(x.add(1230), 8);
        is(x.solve(-1), 1);
        is(x.solve(0), 3);
    }

    private void undone() {
        says(59, "5: there is none");
        x = fresh(SQUARE);
        refused(x.undo(), 5);
        is(x.turn(0), 0);
        is(x.undo(), 0);
        refused(x.undo(), 5);
        is(x.stand(), 123);

        says(59, "12 are kept");
        x = fresh("points 10;move a (0 1 2 3 4 5 6 7 8 9);");
        for (int i = 1; i <= 12; i++) {
            x.turn(0);
            is(x.many(2), i);
        }
        for (int i = 11; i >= 0; i--) {
            is(x.undo(), i);
        }
        is(x.stand(), HOME_10);
        for (int i = 1; i <= 13; i++) {
            x.turn(0);
            is(x.many(2), Math.min(i, 12));
        }
        for (int i = 11; i >= 0; i--) {
            is(x.undo(), i);
        }
        refused(x.undo(), 5);
        is(x.stand(), 1234567890);
        for (int i = 1; i <= 30; i++) {
            x.turn(0);
        }
        is(x.many(2), 12);
        is(x.undo(), 11);
        is(x.stand(), HOME_10);

        says(59, "12 are kept of MOVES that come and go, too");
        x = fresh(SIX_MOVES);
        for (int i = 0; i < 7; i++) {
            is(x.drop(0) - x.order(), 0);
            is(x.add(210) - x.order(), 0);
        }
        is(x.many(2), 12);
        for (int i = 11; i >= 0; i--) {
            is(x.undo(), i);
        }
        is(x.many(1), 6);
        is(x.step(0), 21);
        is(x.step(10), 210);
        is(x.order(), 6);

        says(59, "the latest one not undone yet goes back");
        x = fresh(SQUARE);
        is(x.turn(0), 0);
        is(x.add(1023), 24);
        is(x.undo(), 1);
        is(x.order(), 8);
        is(x.drop(1), 4);
        is(x.undo(), 1);
        is(x.step(2), 2103);
        is(x.undo(), 0);
        is(x.stand(), 123);

        says(59, "each of the ACTS: turn(), place(), home(), add(), drop()");
        x = fresh(SQUARE);
        is(x.turn(1), 0);
        is(x.place(132), 2);
        is(x.home(), 2);
        is(x.add(1023), 24);
        is(x.drop(0), 6);
        is(x.many(2), 5);
        is(x.undo(), 4);
        is(x.order(), 24);
        is(x.step(0), 1230);
        is(x.undo(), 3);
        is(x.order(), 8);
        is(x.many(1), 2);
        is(x.undo(), 2);
        is(x.stand(), 132);
        is(x.undo(), 1);
        is(x.stand(), 3012);
        is(x.undo(), 0);
        is(x.stand(), 123);

        says(59, "a refused call is no ACT, and undo() is none");
        x = fresh(SIX_MOVES);
        refused(x.home(), 4);
        refused(x.turn(12), 2);
        refused(x.place(12), 4);
        refused(x.place(11), 1);
        refused(x.add(12), 3);
        refused(x.drop(6), 2);
        is(x.many(2), 0);
        refused(x.undo(), 5);
    }

    private void printed() {
        says(60, "HOME: ()");
        prints(TWO, 1, "()");
        prints(TEN, HOME_10, "()");

        says(60, "POINTS that stay are left out");
        prints(TEN, 123456798, "(8 9)");
        prints(TEN, 1023456789, "(0 1)");
        prints(SQUARE, 321, "(1 3)");

        says(60, "each from its least POINT on, by that");
        prints(TEN, 9012345678L, "(0 9 8 7 6 5 4 3 2 1)");
        prints(TEN, 1032547698L, "(0 1)(2 3)(4 5)(6 7)(8 9)");
        prints(TEN, BACKWARDS, "(0 9)(1 8)(2 7)(3 6)(4 5)");
        prints(SQUARE, 3021, "(0 3 1)");

        says(60, "1: OUT stays as it was");
        no(SQUARE, x -> x.print(322), 1);
        no(SQUARE, x -> x.print(-1), 1);
        no(SQUARE, x -> x.print(10123), 1);
        x = fresh(SQUARE);
        refused(x.print(322), 1);
        refused(x.out(0), 5);

        says(60, "OUT is the latest one alone");
        x = fresh(TEN);
        is(x.print(BACKWARDS), 25);
        is(x.print(HOME_10), 2);
        is(x.out(1), ')');
        refused(x.out(2), 5);

        says(61, "1: below 0");
        due(SQUARE, x -> x.out(0), '(');
        no(SQUARE, x -> x.out(-1), 1);
        no(SQUARE, x -> x.out(LEAST), 1);

        says(61, "5: OUT has not so many");
        due(SQUARE, x -> x.out(4), ')');
        no(SQUARE, x -> x.out(5), 5);
        no(SQUARE, x -> x.out(MOST), 5);
        given(x -> x.print(1032547698L));
        due(TEN, x -> x.out(24), ')');
        no(TEN, x -> x.out(25), 5);

        says(61, "5: there is none yet");
        x = fresh(SQUARE);
        refused(x.out(0), 5);
        refused(x.out(-1), 1);
    }

    private void prints(String puzzle, long arrangement, String text) {
        x = fresh(puzzle);
        is(x.print(arrangement), text.length());
        for (int i = 0; i < text.length(); i++) {
            is(x.out(i), text.charAt(i));
        }
        refused(x.out(text.length()), 5);
    }
}
