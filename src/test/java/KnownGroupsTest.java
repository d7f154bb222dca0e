/**
 * Groups of which books tell: what is due here was found by others, neither by this class nor by NaiveGroups. Rows that
 * books tell are in the order of the calls; each says() names where the numbers come from.
 */
public final class KnownGroupsTest extends Bench {
    private static final String S7_BY_NEIGHBOURS =
            "points 7;move a (0 1);move b (1 2);move c (2 3);move d (3 4);move e (4 5);move f (5 6);";
    private static final String PANCAKES_6 = "points 6;move a (0 1);move b (0 2);move c (0 3)(1 2);"
            + "move d (0 4)(1 3);move e (0 5)(1 4)(2 3);";
    private static final String PANCAKES_7 = "points 7;move a (0 1);move b (0 2);move c (0 3)(1 2);"
            + "move d (0 4)(1 3);move e (0 5)(1 4)(2 3);move f (0 6)(1 5)(2 4);";
    private static final String S10 = "points 10;move a (0 1 2 3 4 5 6 7 8 9);move b (0 1);";
    /** The pairs of five: 01 02 03 04 12 13 14 23 24 34. */
    private static final String PAIRS_OF_FIVE = "points 10;move a (0 4 7 9 3)(1 5 8 2 6);move b (1 4)(2 5)(3 6);";

    public static void main(String[] args) {
        KnownGroupsTest test = new KnownGroupsTest();
        test.orders();
        test.small();
        test.rows();
        test.lines();
        test.pancakes();
        test.fixedPoints();
        test.colourings();
        test.places();
        test.blocks();
        test.end();
    }

    /** What THE GROUP of a puzzle is due to be: how many points it brings anywhere, if primitive, if solvable, if all are even. */
    private void group(String name, String text, int order, int anywhere, String traits) {
        says(18, name);
        x = fresh(text);
        is(x.order(), order);
        says(47, name);
        is(x.anywhere(), anywhere);
        says(33, name + ": primitive, solvable, even");
        is(x.has(3), traits.indexOf('p') < 0 ? 0 : 1);
        is(x.has(1), traits.indexOf('s') < 0 ? 0 : 1);
        is(x.has(2), traits.indexOf('e') < 0 ? 0 : 1);
    }

    private void orders() {
        group("M9", "points 9;move a (0 3 6)(1 4 7)(2 5 8);move b (1 3 2 6)(4 5 8 7);move c (1 5 2 7)(3 4 6 8);", 72, 2, "pse");
        group("M10", "points 10;move a (0 3 6)(1 4 7)(2 5 8);move b (0 9)(3 6)(4 5)(7 8);move c (1 8 2 4)(3 5 6 7);",
                720, 3, "pe");
        group("PGL(2,9)", "points 10;move a (0 3 6)(1 4 7)(2 5 8);move b (1 7 3 4 2 5 6 8);move c (0 9)(3 6)(4 5)(7 8);",
                720, 3, "p");
        group("PSL(2,9)", "points 10;move a (0 3 6)(1 4 7)(2 5 8);move b (1 3 2 6)(4 5 8 7);move c (0 9)(3 6)(4 5)(7 8);",
                360, 2, "pe");
        group("AGL(1,8)", "points 8;move a (0 1)(2 3)(4 5)(6 7);move b (1 2 4 3 6 7 5);", 56, 2, "pse");
        group("S10", S10, 3628800, 10, "p");
        group("A10", "points 10;move a (0 1 2 3 4 5 6 7 8);move b (7 8 9);", 1814400, 8, "pe");
        group("S9 with 4 held", "points 10;move a (0 1 2 3 5 6 7 8 9);move b (8 9);", 362880, 0, "");
        group("S5 wr S2", "points 10;move a (0 2 4 6 8);move b (0 2);move c (0 1)(2 3)(4 5)(6 7)(8 9);", 28800, 1, "");
        group("S5 of pairs, as the Petersen graph has it", PAIRS_OF_FIVE, 120, 1, "p");
    }

    private void classesAre(String name, String text, int order, int classes, int centre) {
        says(30, name);
        x = fresh(text);
        is(x.order(), order);
        is(x.classes(), classes);
        says(29, name);
        is(x.centre(-1), centre);
    }

    private void small() {
        classesAre("PSL(2,7)", "points 8;move a (0 1 2 3 4 5 6);move b (0 7)(1 6)(2 3)(4 5);", 168, 6, 1);
        classesAre("PSL(3,2)", "points 7;move a (0 1 2 3 4 5 6);move b (1 2)(3 6);", 168, 6, 1);
        classesAre("PGL(2,7)", "points 8;move a (0 1 2 3 4 5 6);move b (1 3 2 6 4 5);move c (0 7)(1 6)(2 3)(4 5);", 336, 9, 1);
        classesAre("AGL(3,2)", "points 8;move a (0 1)(2 3)(4 5)(6 7);move b (1 4 2)(3 5 6);move c (2 3)(6 7);", 1344, 11, 1);
        classesAre("PSL(2,8)", "points 9;move a (0 1)(2 3)(4 5)(6 7);move b (1 2 4 3 6 7 5);move c (0 8)(2 5)(3 6)(4 7);",
                504, 9, 1);
        classesAre("PGammaL(2,8)", "points 9;move a (0 1)(2 3)(4 5)(6 7);move b (1 2 4 3 6 7 5);"
                + "move c (0 8)(2 5)(3 6)(4 7);move d (2 4 6)(3 5 7);", 1512, 11, 1);
        classesAre("AGL(2,3)", "points 9;move a (0 3 6)(1 4 7)(2 5 8);move b (1 4 7)(2 8 5);move c (1 3 2 6)(4 5 8 7);"
                + "move d (3 6)(4 7)(5 8);", 432, 11, 1);
        classesAre("M10", "points 10;move a (0 3 6)(1 4 7)(2 5 8);move b (0 9)(3 6)(4 5)(7 8);move c (1 8 2 4)(3 5 6 7);",
                720, 8, 1);
        classesAre("PGammaL(2,9)", "points 10;move a (0 3 6)(1 4 7)(2 5 8);move b (1 7 3 4 2 5 6 8);"
                + "move c (0 9)(3 6)(4 5)(7 8);move d (1 2)(4 5)(7 8);", 1440, 13, 1);
        classesAre("S7", S7_BY_NEIGHBOURS, 5040, 15, 1);
        classesAre("A7", "points 7;move a (0 1 2 3 4 5 6);move b (0 1 2);", 2520, 9, 1);
        classesAre("the signed arrangements of five",
                "points 10;move a (0 1);move b (0 2)(1 3);move c (0 2 4 6 8)(1 3 5 7 9);", 3840, 36, 2);
        classesAre("S4 wr S2", "points 8;move a (0 1 2 3);move b (0 1);move c (0 4)(1 5)(2 6)(3 7);", 1152, 20, 1);
        classesAre("S3 wr S3", "points 9;move a (0 1 2);move b (0 1);move c (0 3 6)(1 4 7)(2 5 8);move d (0 3)(1 4)(2 5);",
                1296, 22, 1);
        classesAre("quaternions", "points 8;move a (0 1 2 3)(4 5 6 7);move b (0 4 2 6)(1 7 3 5);", 8, 5, 2);
        classesAre("turns and mirrors of ten", "points 10;move a (0 1 2 3 4 5 6 7 8 9);move b (1 9)(2 8)(3 7)(4 6);", 20, 8, 2);
    }

    private void orderRows(String name, String text, int[] derived, int[] central) {
        x = fresh(text);
        says(32, name);
        for (int i = 0; i < derived.length; i++) {
            is(x.derived(i), derived[i]);
        }
        refused(x.derived(derived.length), 5);
        says(37, name);
        for (int i = 0; i < central.length; i++) {
            is(x.central(i), central[i]);
        }
        refused(x.central(central.length), 5);
    }

    private static int[] row(int... numbers) {
        return numbers;
    }

    private void rows() {
        orderRows("S4", "points 4;move a (0 1 2 3);move b (0 1);", row(24, 12, 4, 1), row(24, 12));
        orderRows("AGL(2,3)", "points 9;move a (0 3 6)(1 4 7)(2 5 8);move b (1 4 7)(2 8 5);move c (1 3 2 6)(4 5 8 7);"
                + "move d (3 6)(4 7)(5 8);", row(432, 216, 72, 18, 9, 1), row(432, 216));
        orderRows("the 2-group of S8", "points 8;move a (0 1);move b (0 2)(1 3);move c (0 4)(1 5)(2 6)(3 7);",
                row(128, 16, 2, 1), row(128, 16, 4, 2, 1));
        orderRows("the 3-group of S9", "points 9;move a (0 1 2);move b (0 3 6)(1 4 7)(2 5 8);", row(81, 9, 1), row(81, 9, 3, 1));
        orderRows("turns and mirrors of eight", "points 8;move a (0 1 2 3 4 5 6 7);move b (1 7)(2 6)(3 5);",
                row(16, 4, 1), row(16, 4, 2, 1));
        orderRows("S10", S10, row(3628800, 1814400), row(3628800, 1814400));
        orderRows("AGL(1,8)", "points 8;move a (0 1)(2 3)(4 5)(6 7);move b (1 2 4 3 6 7 5);", row(56, 8, 1), row(56, 8));
        orderRows("PSL(2,7)", "points 7;move a (0 1 2 3 4 5 6);move b (1 2)(3 6);", row(168), row(168));
    }

    private void depthsAre(String name, String text, int... counts) {
        says(24, name);
        x = fresh(text);
        for (int i = 0; i < counts.length; i++) {
            is(x.deep(i), counts[i]);
        }
        refused(x.deep(counts.length), 5);
        says(25, name);
        is(x.deepest(0), counts.length - 1);
    }

    /** By neighbours that change places a way is as long as there are pairs out of order. */
    private void lines() {
        depthsAre("pairs out of order, of seven", S7_BY_NEIGHBOURS,
                1, 6, 20, 49, 98, 169, 259, 359, 455, 531, 573, 573, 531, 455, 359, 259, 169, 98, 49, 20, 6, 1);
        says(25, "all the other way about has most pairs out of order");
        is(x.deepest(1), 5039);
        is(x.nth(5039), 6543210L);
        says(26, "on the mean a quarter of 7 times 6");
        is(x.mean(0), 21);
        is(x.mean(1), 2);
        says(23, "a way as long as there are pairs out of order");
        is(x.way(6543210L, -1), 21);
        is(x.way(1234560L, -1), 6);
        is(x.way(6012345L, -1), 6);
        says(27, "each pair of neighbours out of order brings nearer, by the move and by its inverse");
        is(x.place(6543210L), 7);
        is(x.nearer(), 4095);
        is(x.solve(-1), 21);
    }

    private void pancakes() {
        depthsAre("six pancakes", PANCAKES_6, 1, 5, 20, 79, 199, 281, 133, 2);
        depthsAre("seven pancakes", PANCAKES_7, 1, 6, 30, 149, 543, 1357, 1903, 1016, 35);
    }

    private void fixedPoints() {
        x = fresh(S7_BY_NEIGHBOURS);
        says(48, "S7, by points that stay");
        int[] staying = {1854, 1855, 924, 315, 70, 21, 0, 1};
        for (int i = 0; i < staying.length; i++) {
            is(x.fixing(i), staying[i]);
        }
        says(53, "S7, by orders");
        int[] orders = {1, 231, 350, 840, 504, 1470, 720, 0, 0, 504, 0, 420};
        for (int i = 0; i < orders.length; i++) {
            if (orders[i] > 0) {
                is(x.ofOrder(i + 1), orders[i]);
            } else {
                refused(x.ofOrder(i + 1), 5);
            }
        }
        says(50, "S7: 5,040 by the lengths, and by how many ways there are to change those of one length");
        is(x.typed(1204536L), 5040 / (3 * 3 * 2));
        is(x.typed(1204365L), 5040 / (3 * 2 * 2 * 2));
        is(x.typed(1234560L), 5040 / 7);
        says(52, "the least that moves in M10: sharply 3 times anywhere, so 8");
        x = fresh("points 10;move a (0 3 6)(1 4 7)(2 5 8);move b (0 9)(3 6)(4 5)(7 8);move c (1 8 2 4)(3 5 6 7);");
        is(x.slightest(), 8);
        says(43, "M10: sharply 3 times anywhere, so nothing holds three");
        is(x.holds(1), 72);
        is(x.holds(1 << 9 | 1), 8);
        is(x.holds(7), 1);
    }

    private void coloursAre(String name, String text, long... ways) {
        says(49, name);
        x = fresh(text);
        for (int i = 0; i < ways.length; i++) {
            is(x.colours(i + 1), ways[i]);
        }
    }

    private void colourings() {
        coloursAre("graphs of five", PAIRS_OF_FIVE, 1, 34, 792, 10688, 90005);
        coloursAre("graphs of four", "points 6;move a (0 3 5 2)(1 4);move b (1 3)(2 4);", 1, 11, 66, 276, 900);
        coloursAre("necklaces of ten", "points 10;move a (0 1 2 3 4 5 6 7 8 9);", 1, 108, 5934, 104968, 976887);
        coloursAre("bracelets of ten", "points 10;move a (0 1 2 3 4 5 6 7 8 9);move b (1 9)(2 8)(3 7)(4 6);", 1, 78, 3210);
        coloursAre("the sides of a cube", "points 6;move a (0 1 2 3);move b (0 4 2 5);", 1, 10, 57, 240, 800);
        coloursAre("the corners of a cube", "points 8;move a (0 1 2 3)(4 5 6 7);move b (0 4 5 1)(3 7 6 2);", 1, 23, 333);
        coloursAre("S7: how many have each colour", S7_BY_NEIGHBOURS, 1, 8, 36, 120, 330);
    }

    private void places() {
        x = fresh(S10);
        says(21, "the millionth of ten digits");
        is(x.nth(999999), 2783915460L);
        is(x.nth(3628799), 9876543210L);
        is(x.nth(0), 123456789L);
        refused(x.nth(3628800), 5);
        says(22, "the millionth of ten digits");
        is(x.rank(2783915460L), 999999);
        is(x.rank(9876543210L), 3628799);
    }

    private void blocks() {
        says(46, "faces that stand against each other are a BLOCK of a cube's turns");
        x = fresh("points 6;move a (0 1 2 3);move b (0 4 2 5);");
        is(x.block(0, 2), 5);
        is(x.block(3, 1), 10);
        is(x.block(4, 5), 48);
        is(x.block(0, 1), 63);
        says(46, "the corners of a cube: both ends of a line through its middle, and every other one");
        x = fresh("points 8;move a (0 1 2 3)(4 5 6 7);move b (0 4 5 1)(3 7 6 2);");
        is(x.block(0, 6), 1 | 1 << 6);
        is(x.block(0, 2), 1 | 1 << 2 | 1 << 5 | 1 << 7);
        is(x.block(0, 1), 255);
    }
}
