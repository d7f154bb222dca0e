/** The boundaries that the document names of the tape and of the text of a puzzle, sentence by sentence. */
public final class TextBoundariesTest extends Bench {
    private static final String SIX_MOVES = "points 2;move a(0);move b(0);move c(0);move d(0);move e(0);word f a;";

    public static void main(String[] args) {
        TextBoundariesTest test = new TextBoundariesTest();
        test.tokens();
        test.signs();
        test.pointsLine();
        test.moveLine();
        test.wordLine();
        test.names();
        test.sevenMoves();
        test.firstFault();
        test.newObject();
        test.tape();
        test.loading();
        test.toldFault();
        test.counts();
        test.needPromises(0, 6);
        test.end();
    }

    private static String blanks(int howMany) {
        return " ".repeat(howMany);
    }

    // ---- the terms

    private void tokens() {
        says(0, "WORDS (1 to 8 small letters; a longer one is no TOKEN)");
        x = new MoveGroups();
        fine("points 3;move a (0 1);", 1);
        fine("points 3;move abcdefgh (0 1);", 1);
        faulty("points 3;move abcdefghi (0 1);", 1, 14);
        faulty("pointspoi 3;", 1, 0);
        faulty("points 3;move abcdefgh (0 1);word b abcdefghi;", 1, 36);
        faulty("points 3;" + "z".repeat(371), 1, 9);

        says(0, "small letters: a to z and none beside them");
        fine("points 3;move az (0 1);word za az;", 2);
        faulty("points 3;move ` (0 1);", 1, 14);
        faulty("points 3;move { (0 1);", 1, 14);
        faulty("points 3;move A (0 1);", 1, 14);
        faulty("points 3;move aA (0 1);", 1, 15);

        says(0, "NUMBERS (1 or 2 digits; a longer one is none)");
        fine("points 3;move a (0 1);", 1);
        fine("points 03;move a (00 01);", 1);
        faulty("points 003;", 1, 7);
        faulty("points 3;move a (0 001);", 1, 19);
        faulty("points 3;move a (000);", 1, 17);
        faulty("points 3;move a (" + "0".repeat(360), 1, 17);

        says(0, "digits: 0 to 9 and none beside them");
        fine("points 10;move a (0 9);", 1);
        faulty("points 10;move a (0 /);", 1, 20);
        faulty("points 10;move a (0 :);", 1, 20);
        faulty("points 10;move a (0 -1);", 1, 20);

        says(0, "TOKENS, as long as they go");
        fine("points2;move a(0 1);word b a'a a'a;word c aa';".replace("aa'", "a a'"), 3);
        is(x.step(2), 1);
        faulty("points2;move a(01);move aa(0 1);word b aaa;", 4, 39);
        fine("points 3;move a(01 2);", 1);
        is(x.step(0), 21);
        fine("points 10;move a(1 0);", 1);
        faulty("points 10;move a(10);", 3, 17);
    }

    private void signs() {
        says(0, "between them blanks (10, 32)");
        x = new MoveGroups();
        fine("points\n3\n;\nmove\na\n(\n0\n1\n)\n;\n", 1);
        fine(" points 3 ; move a ( 0 1 ) ; word b a ' a ; ", 2);
        faulty("points\t3;", 1, 6);
        faulty("points 3;\r", 1, 9);
        faulty("points 3;\u000b", 1, 9);
        faulty("points 3;\u001f", 1, 9);
        faulty("points 3;\u0000", 1, 9);
        faulty("points 3;!", 1, 9);
        faulty("points 3;\u00a0", 1, 9);
        faulty("points 3;\u008a", 1, 9);

        says(0, "the SIGNS ( ) ' ; and none beside them");
        faulty("points 3;move a &0 1);", 1, 16);
        faulty("points 3;move a *0 1);", 1, 16);
        faulty("points 3;move a (0 1);word b a\";", 1, 30);
        faulty("points 3:", 1, 8);
        faulty("points 3<", 1, 8);
        faulty("points 3;move a (0,1);", 1, 18);
        faulty("points 3;move a \u00a80 1);", 1, 16);
        faulty("points 3\u00bb", 1, 8);
        faulty("\u00f0oints 3;", 1, 0);
        faulty("points \u00b3;", 1, 7);
    }

    private void pointsLine() {
        says(0, "points NUMBER ; (2 to 10)");
        x = new MoveGroups();
        fine("points 2;", 0);
        is(x.many(0), 2);
        fine("points 10;", 0);
        is(x.many(0), 10);
        faulty("points 1;", 3, 7);
        faulty("points 0;", 3, 7);
        faulty("points 00;", 3, 7);
        faulty("points 11;", 3, 7);
        faulty("points 99;", 3, 7);
        fine("points 02;", 0);
        faulty("points 01;", 3, 7);

        says(0, "once: points a second time is 2");
        fine("points 3;", 0);
        faulty("points 3;points 3;", 2, 9);
        faulty("points 3;move a (0 1);points 3;", 2, 22);
        faulty("points 3;points", 2, 9);
        faulty("points 3;points 99;", 2, 9);

        says(0, "ahead of all others: a LINE ahead of points is 2");
        faulty("move a (0 1);points 3;", 2, 0);
        faulty("word a b;", 2, 0);
        faulty("  move", 2, 2);

        says(0, "a TOKEN that can't stand there, in points");
        faulty(";", 2, 0);
        faulty("3;", 2, 0);
        faulty("point 3;", 2, 0);
        faulty("pointss 3;", 2, 0);
        faulty("points;", 2, 6);
        faulty("points points;", 2, 7);
        faulty("points ;", 2, 7);
        faulty("points 3 3;", 2, 9);
        faulty("points 3 move", 2, 9);
        faulty("points 3;;", 2, 9);

        says(0, "the end of the text: its length");
        faulty("points", 2, 6);
        faulty("points  ", 2, 8);
        faulty("points 3", 2, 8);
        faulty("points 3 \n", 2, 10);
        faulty("points 3;move", 2, 13);
        faulty("points 3;move a", 2, 15);
        faulty("points 3;move a (", 2, 17);
        faulty("points 3;move a (0", 2, 18);
        faulty("points 3;move a (0 1)", 2, 21);
        faulty("points 3;move a (0 1)   ", 2, 24);
        faulty("points 3;move a (0 1);word", 2, 26);
        faulty("points 3;move a (0 1);word b", 2, 28);
        faulty("points 3;move a (0 1);word b a", 2, 30);
        faulty("points 3;move a (0 1);word b a'", 2, 31);
        faulty("points 3;move a (0 1)" + blanks(379), 2, 400);

        says(0, "A TEXT: {LINE}, any number of times");
        x = fresh("points 3;move a (0 1);");
        fine("", 0);
        is(x.many(0), 0);
        is(x.many(1), 0);
        is(x.many(3), 1);
        refused(x.stand(), 5);
        fine(" \n ", 0);
        is(x.many(0), 0);
        fine(blanks(400), 0);
    }

    private void moveLine() {
        says(0, "move NAME CYCLE {CYCLE} ;");
        x = new MoveGroups();
        fine("points 4;move a (0);", 1);
        is(x.step(0), 123);
        fine("points 4;move a (0 1);", 1);
        fine("points 4;move a (0)(1)(2)(3);", 1);
        is(x.step(0), 123);
        fine("points 4;move a (0 1)(2 3);", 1);
        is(x.step(0), 1032);
        fine("points 10;move a (9 8 7 6 5 4 3 2 1 0);", 1);
        is(x.step(0), 9012345678L);
        faulty("points 4;move a;", 2, 15);
        faulty("points 4;move (0 1);", 2, 14);
        faulty("points 4;move ;", 2, 14);
        faulty("points 4;move 1 (0 1);", 2, 14);
        faulty("points 4;move a 0 1;", 2, 16);
        faulty("points 4;move a b (0 1);", 2, 16);
        faulty("points 4;move a );", 2, 16);
        faulty("points 4;move a (0 1) 2;", 2, 22);
        faulty("points 4;move a (0 1) b;", 2, 22);
        faulty("points 4;move a (0 1)';", 2, 21);
        faulty("points 4;move a (0 1))", 2, 21);

        says(0, "CYCLE: ( NUMBER {NUMBER} )");
        faulty("points 4;move a ();", 2, 17);
        faulty("points 4;move a (0 1)();", 2, 22);
        faulty("points 4;move a (a);", 2, 17);
        faulty("points 4;move a ((0 1));", 2, 17);
        faulty("points 4;move a (0(1));", 2, 18);
        faulty("points 4;move a (0 b);", 2, 19);
        faulty("points 4;move a (0 1;", 2, 20);
        faulty("points 4;move a (0')", 2, 18);

        says(0, "CYCLE of POINTS: 3 a NUMBER that can't be (no such POINT)");
        fine("points 4;move a (0 3);", 1);
        faulty("points 4;move a (0 4);", 3, 19);
        faulty("points 4;move a (4);", 3, 17);
        faulty("points 4;move a (0 99);", 3, 19);
        fine("points 2;move a (1 0);", 1);
        faulty("points 2;move a (2 0);", 3, 17);
        fine("points 10;move a (09 08);", 1);
        faulty("points 10;move a (9 10);", 3, 20);

        says(0, "no POINT twice in a LINE: 4 a POINT that was told in this LINE");
        faulty("points 4;move a (0 0);", 4, 19);
        faulty("points 4;move a (0 1 0);", 4, 21);
        faulty("points 4;move a (0 00);", 4, 19);
        faulty("points 4;move a (0 1)(2 1);", 4, 24);
        faulty("points 4;move a (3)(3);", 4, 20);
        fine("points 4;move a (0 1);move b (0 1);", 2);
        fine("points 4;move a (0 1 2 3);move b (3 2 1 0);", 2);
        faulty("points 4;move a (0 1);move b (2)(2);", 4, 33);
    }

    private void wordLine() {
        says(0, "word NAME ITEM {ITEM} ;");
        x = new MoveGroups();
        fine("points 3;move a (0 1 2);word b a;", 2);
        is(x.step(2), 120);
        fine("points 3;move a (0 1 2);word b a a a a;", 2);
        is(x.step(2), 120);
        faulty("points 3;move a (0 1 2);word b;", 2, 30);
        faulty("points 3;move a (0 1 2);word;", 2, 28);
        faulty("points 3;move a (0 1 2);word b (0 1);", 2, 31);
        faulty("points 3;move a (0 1 2);word b a (0 1);", 2, 33);
        faulty("points 3;move a (0 1 2);word b 1;", 2, 31);
        faulty("points 3;move a (0 1 2);word b a 1;", 2, 33);
        faulty("points 3;word", 2, 13);

        says(0, "ITEM: NAME [']");
        fine("points 3;move a (0 1 2);word b a';", 2);
        is(x.step(2), 201);
        fine("points 3;move a (0 1 2);word b a a' a'\n;", 2);
        is(x.step(2), 201);
        fine("points 3;move a (0 1 2);word b a ' a;", 2);
        is(x.step(2), 12);
        faulty("points 3;move a (0 1 2);word b 'a;", 2, 31);
        faulty("points 3;move a (0 1 2);word b a'';", 2, 33);
        faulty("points 3;move a (0 1 2);word b ';", 2, 31);

        says(0, "of a MOVE told ahead: 4 a NAME that is none told ahead");
        faulty("points 3;word b a;", 4, 16);
        faulty("points 3;word b b;", 4, 16);
        faulty("points 3;move a (0 1 2);word b b;", 4, 31);
        faulty("points 3;move a (0 1 2);word b a b;", 4, 33);
        faulty("points 3;word b a;move a (0 1);", 4, 16);
        faulty("points 3;move ab (0 1 2);word b a;", 4, 32);
        faulty("points 3;move ab (0 1 2);word b abc;", 4, 32);
        faulty("points 3;move ab (0 1 2);word b ac;", 4, 32);
        faulty("points 3;move abcdefgh (0 1 2);word b abcdefgi;", 4, 38);
        fine("points 3;move a (0 1 2);word b a';word c b' a;", 3);
        is(x.step(4), 201);
    }

    private void names() {
        says(0, "NAMES are WORDS but points, move, word");
        x = new MoveGroups();
        faulty("points 3;move points (0 1);", 2, 14);
        faulty("points 3;move move (0 1);", 2, 14);
        faulty("points 3;move word (0 1);", 2, 14);
        faulty("points 3;move a (0 1);word points a;", 2, 27);
        faulty("points 3;move a (0 1);word move a;", 2, 27);
        faulty("points 3;move a (0 1);word word a;", 2, 27);
        faulty("points 3;move a (0 1);word b points;", 2, 29);
        faulty("points 3;move a (0 1);word b move;", 2, 29);
        faulty("points 3;move a (0 1);word b word;", 2, 29);
        faulty("points 3;move a (0 1);word b a move c (0 1);", 2, 31);
        fine("points 3;move joints (0 1);move pointz (0);move love (0);move movi (0);word lord love;word wore love;", 6);
        faulty("joints 3;", 2, 0);
        faulty("pointz 3;", 2, 0);
        faulty("points 3;love a (0 1);", 2, 9);
        faulty("points 3;movi a (0 1);", 2, 9);
        faulty("points 3;move a (0 1);lord b a;", 2, 22);
        faulty("points 3;move a (0 1);wore b a;", 2, 22);
        fine("points 3;move point (0 1);move pointss (0);move mov (0);move moves (0);word words mov;word wor mov;", 6);

        says(0, "no two MOVES have one: 4 a new NAME that is taken");
        faulty("points 3;move a (0 1);move a (1 2);", 4, 27);
        faulty("points 3;move a (0 1);word a a;", 4, 27);
        faulty("points 3;move a (0 1);word b a;move b (0);", 4, 36);
        faulty("points 3;move abcdefgh (0 1);move abcdefgh (0);", 4, 34);
        fine("points 3;move a (0 1);move aa (0);move aaa (0);word b a;", 4);
        fine("points 3;move abcdefgh (0 1);move abcdefgi (0);move bbcdefgh (0);", 3);
        fine("points 3;move a (0 1);", 1);
        fine("points 3;move a (0 1);", 1);
    }

    private void sevenMoves() {
        says(0, "At most 6 MOVES (move, word): 5 a seventh MOVE (at the LINE's WORD)");
        x = new MoveGroups();
        fine("points 2;move a(0);move b(0);move c(0);move d(0);move e(0);", 5);
        fine(SIX_MOVES, 6);
        fine(SIX_MOVES + " \n", 6);
        faulty(SIX_MOVES + "move g(0 1);", 5, 68);
        faulty(SIX_MOVES + " word g a;", 5, 69);
        faulty(SIX_MOVES + "move", 5, 68);
        faulty(SIX_MOVES + "word 7", 5, 68);
        faulty(SIX_MOVES + "move a (9", 5, 68);
        faulty(SIX_MOVES + "points 3;", 2, 68);
        faulty(SIX_MOVES + "turn", 2, 68);
        faulty(SIX_MOVES + ";", 2, 68);
        faulty(SIX_MOVES + "wordwords", 1, 68);
        faulty(SIX_MOVES + "1", 2, 68);

        says(0, "MOVES are numbered from 0 on as they are told");
        fine("points 3;move a(0 1);word b a;move c(1 2);word d c;move e(0 2);word f e;", 6);
        is(x.step(0), 102);
        is(x.step(2), 102);
        is(x.step(4), 21);
        is(x.step(6), 21);
        is(x.step(8), 210);
        is(x.step(10), 210);
        refused(x.step(12), 2);
    }

    private void firstFault() {
        says(0, "of several the first along the text");
        x = new MoveGroups();
        faulty("points 3;move a (0 3);move a (0 0);!", 3, 19);
        faulty("points 3;move a (0 0 3 !", 4, 19);
        faulty("points 3;move a (0 1;move a !", 2, 20);
        faulty("points 3;! move move", 1, 9);
        faulty("points 1 !", 3, 7);
        faulty("points 3;move a (0 1);word a c;", 4, 27);
        faulty("points 3;move a (0 1);word b c !", 4, 29);

        says(0, "of one TOKEN the least kind");
        faulty("points 3;move a (0 1);word b abcdefghi;", 1, 29);
        faulty("points 3;move a (0 100);", 1, 19);
        faulty("points 3;move a (3 3);", 3, 17);
        faulty("points 3;move a 3;", 2, 16);
        faulty("points 3;move a (0 1) 5;", 2, 22);
        faulty("points 3;move a (0 1)a;", 2, 21);
        faulty("points 3;move a (a);", 2, 17);
        faulty("points 3;move a (0 1);word move move;", 2, 27);
    }

    // ---- promises 1 to 6

    private void newObject() {
        says(1, "No POINTS; STATUS 0");
        x = new MoveGroups();
        bare(x.status(), 0);
        is(x.many(0), 0);
        is(x.many(1), 0);
        is(x.many(2), 0);
        is(x.many(3), 1);
        refused(x.stand(), 5);
        bare(x.feed(0, 0, 0, 0, 0), 20);

        says(2, "the latest call that has one");
        x = fresh("points 3;move a (0 1);");
        bare(x.status(), 0);
        refused(x.step(2), 2);
        bare(x.status(), 2);
        bare(x.status(), 2);
        bare(x.feed(1, 2, 3, 4, 5), 20);
        bare(x.status(), 2);
        bare(x.fault(0), 0);
        bare(x.status(), 2);
        bare(x.fault(7), -1);
        bare(x.status(), 2);
        is(x.step(1), 102);
        bare(x.status(), 0);
        refused(x.load(20), 9);
        bare(x.fault(0), 1);
        bare(x.status(), 9);
        for (int i = 1; i <= 20; i++) {
            bare(x.feed(0, 0, 0, 0, 0), 20 * i);
        }
        bare(x.feed(0, 0, 0, 0, 0), -1);
        bare(x.status(), 9);
        refused(x.load(401), 1);
        refused(x.nth(2), 5);
        bare(x.feed(0, 0, 0, 0, 0), -1);
        bare(x.status(), 5);
        is(x.order(), 2);
        bare(x.feed(0, 0, 0, 0, 0), -1);
        bare(x.status(), 0);
    }

    private void tape() {
        says(3, "NONE if there would be more than 400");
        x = new MoveGroups();
        for (int i = 1; i <= 19; i++) {
            bare(x.feed(0x20202020, 0x20202020, 0x20202020, 0x20202020, 0x20202020), 20 * i);
        }
        bare(x.feed(0x20202020, 0x20202020, 0x2020706f, 0x696e7473, 0x2031303b), 400);
        bare(x.feed(0x21212121, 0x21212121, 0x21212121, 0x21212121, 0x21212121), -1);
        bare(x.feed(0, 0, 0, 0, 0), -1);
        refused(x.load(401), 1);
        is(x.load(400), 0);
        is(x.many(0), 10);

        says(3, "behind those on the tape: it is empty behind a load");
        bare(x.feed(0x706f696e, 0x74732033, 0x3b202020, 0x20202020, 0x20202020), 20);
        bare(x.feed(0, 0, 0, 0, 0), 40);
        is(x.load(20), 0);
        is(x.many(0), 3);
        bare(x.feed(0, 0, 0, 0, 0), 20);

        says(3, "the highest of each int first");
        x = new MoveGroups();
        bare(x.feed(0x706f696e, 0x74732032, 0x3b6d6f76, 0x65206128, 0x30203129), 20);
        bare(x.feed(0x3bffffff, 0, 0, 0, 0), 40);
        is(x.load(21), 1);
        is(x.step(0), 10);

        says(3, "a byte of 128 and above is one, too");
        bare(x.feed(0x20202020, 0x20202020, 0x20202020, 0x20202020, 0x202020ff), 20);
        refused(x.load(20), 9);
        bare(x.fault(0), 1);
        bare(x.fault(1), 19);
        bare(x.feed(0x80000000, 0, 0, 0, 0), 20);
        refused(x.load(1), 9);
        bare(x.fault(1), 0);
    }

    private void loading() {
        says(4, "1: n below 0, above what the tape has");
        x = new MoveGroups();
        refused(x.load(1), 1);
        refused(x.load(-1), 1);
        is(x.load(0), 0);
        feed(x, "points 3;move a(0 1)");
        refused(x.load(-1), 1);
        refused(x.load(21), 1);
        refused(x.load(Integer.MIN_VALUE), 1);
        refused(x.load(Integer.MAX_VALUE), 1);
        bare(x.fault(0), 0);
        feed(x, ";");
        refused(x.load(41), 1);
        is(x.load(21), 1);
        refused(x.load(1), 1);

        says(4, "the tape is empty then: what stood behind the n bytes is gone, too");
        x = new MoveGroups();
        feed(x, "points 3;points 4;points 5;points 6;");
        is(x.load(9), 0);
        is(x.many(0), 3);
        refused(x.load(1), 1);
        is(x.load(0), 0);
        is(x.many(0), 0);

        says(4, "the first n bytes: a TOKEN ends with them, though the tape goes on");
        x = new MoveGroups();
        cut("points 10;", 8, 3, 7);
        cut("points 1010;", 9, 2, 9);
        cut("points 2;", 5, 2, 0);
        cut("pointss 3;", 6, 2, 6);
        cut("points 3;move abcdefghi (0 1);", 22, 2, 22);
        cut("points 3;move a (0 1);word b abc;", 30, 2, 30);
        cut("points 3;", 6, 2, 6);
        cut("points  3;", 7, 2, 7);
        feed(x, "points 3;move a (0 1);!");
        is(x.load(22), 1);

        says(4, "also with 9");
        feed(x, "points 3;points 4;points 5;points 6;");
        refused(x.load(18), 9);
        refused(x.load(1), 1);
        bare(x.feed(0, 0, 0, 0, 0), 20);

        says(4, "the whole tape");
        x = new MoveGroups();
        String line = "points 3;move a (0 1);word b a;";
        fine(line + blanks(399 - line.length()) + "\n", 2);
        fine(blanks(400 - line.length()) + line, 2);
        faulty(blanks(399 - line.length()) + line + "'", 2, 399);
        fine("points 3;move a (0 1);word b" + " a".repeat(185) + ";", 2);
        is(x.step(2), 102);
        fine("points 3;move a (0 1);word b" + " a".repeat(184) + " ;", 2);
        is(x.step(2), 12);

        says(4, "THE STAND is HOME, load() forgets ACTS");
        x = fresh("points 3;move a (0 1 2);");
        is(x.turn(0), 0);
        is(x.add(102), 6);
        fine("points 3;move b (0 1);", 1);
        is(x.stand(), 12);
        is(x.many(1), 1);
        is(x.many(2), 0);
        is(x.many(3), 1);
        refused(x.undo(), 5);
        is(x.order(), 2);

        says(4, "with 9 nothing else changes");
        is(x.turn(0), 1);
        faulty("points 4;move c (0 1 2 3);move d (4);", 3, 34);
        is(x.many(0), 3);
        is(x.many(1), 1);
        is(x.many(2), 1);
        is(x.stand(), 102);
        is(x.step(0), 102);
        is(x.order(), 2);
        is(x.undo(), 0);
        is(x.stand(), 12);
        x = new MoveGroups();
        faulty("points 4", 2, 8);
        is(x.many(0), 0);
        refused(x.order(), 5);

        says(4, "how many MOVES: 0 to 6");
        fine("points 4;", 0);
        fine(SIX_MOVES, 6);
    }

    /** A text of which only the first bytes are loaded. */
    private void cut(String text, int length, int kind, int place) {
        feed(x, text);
        refused(x.load(length), 9);
        bare(x.fault(0), kind);
        bare(x.fault(1), place);
    }

    private void toldFault() {
        says(5, "NONE ahead of any load() with STATUS 0 or 9");
        x = new MoveGroups();
        bare(x.fault(0), -1);
        bare(x.fault(1), -1);
        refused(x.load(1), 1);
        bare(x.fault(0), -1);
        bare(x.fault(1), -1);

        says(5, "0 without one, its place NONE without");
        is(x.load(0), 0);
        bare(x.fault(0), 0);
        bare(x.fault(1), -1);

        says(5, "of the latest load() with STATUS 0 or 9");
        faulty("points 3;!", 1, 9);
        refused(x.load(1), 1);
        bare(x.fault(0), 1);
        bare(x.fault(1), 9);
        is(x.many(0), 0);
        bare(x.fault(0), 1);
        faulty("points 3", 2, 8);
        fine("points 3;", 0);
        refused(x.load(-1), 1);
        bare(x.fault(0), 0);
        bare(x.fault(1), -1);

        says(5, "what: NONE for others");
        faulty("points 3;move a (0 1);move a (0);", 4, 27);
        bare(x.fault(2), -1);
        bare(x.fault(-1), -1);
        bare(x.fault(Integer.MAX_VALUE), -1);
        bare(x.fault(Integer.MIN_VALUE), -1);
        bare(x.fault(1), 27);

        says(5, "a place may be 0, and the length of the tape");
        faulty("!", 1, 0);
        faulty("points 3" + blanks(392), 2, 400);
    }

    private void counts() {
        String square = "points 4;move r (0 1 2 3);move s (0 2);";
        says(6, "POINTS (what 0)");
        due("points 2;", x -> x.many(0), 2);
        due("points 10;", x -> x.many(0), 10);
        due(NO_PUZZLE, x -> x.many(0), 0);

        says(6, "MOVES (1)");
        due("points 2;", x -> x.many(1), 0);
        due(SIX_MOVES, x -> x.many(1), 6);
        due(NO_PUZZLE, x -> x.many(1), 0);

        says(6, "ACTS that can be undone (2)");
        due(square, x -> x.many(2), 2);
        due(NO_PUZZLE, x -> x.many(2), 0);

        says(6, "1 if THE STAND is HOME, else 0 (3)");
        due(square, x -> x.many(3), 1);
        due(NO_PUZZLE, x -> x.many(3), 1);
        given(x -> x.place(132));
        due(square, x -> x.many(3), 0);
        given(x -> x.turn(0));
        due(square, x -> x.many(3), 0);

        says(6, "another what is 1");
        no(square, x -> x.many(4), 1);
        no(square, x -> x.many(-1), 1);
        no(NO_PUZZLE, x -> x.many(4), 1);
        no(NO_PUZZLE, x -> x.many(-1), 1);
        no(square, x -> x.many(Integer.MIN_VALUE), 1);
        no(square, x -> x.many(Integer.MAX_VALUE), 1);
    }
}
