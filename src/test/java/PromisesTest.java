/** The document's promises one by one: ordinary inputs, edges and wrong inputs, with answers worked out by hand. */
public final class PromisesTest {
    private static final int BAD = -1, STATE = -2, FULL = -3, NONE = -9, NO = -1000000;
    private static final int LOW = Integer.MIN_VALUE, HIGH = Integer.MAX_VALUE;
    private static final Checks CHECKS = new Checks();

    public static void main(String[] args) {
        newObject();
        type();
        clear();
        chip();
        chipFaults();
        book();
        bookFaults();
        drop();
        about();
        coat();
        colour();
        tune();
        leastAndWays();
        laid();
        painting();
        had();
        face();
        moved();
        span();
        day();
        bill();
        billed();
        enough();
        next();
        rank();
        keepAndBack();
        count();
        trace();
        CHECKS.end("PromisesTest");
    }

    private static void due(String what, long want, long got) {
        CHECKS.due(what, want, got);
    }

    private static CoatRows rows(String book, String... chips) {
        return Checks.rows(book, chips);
    }

    private static void newObject() {
        CoatRows x = new CoatRows();
        for (int what = 0; what < 4; what++) {
            due("1 count " + what, 0, x.count(what));
        }
        due("1 trace", 0, x.trace());
        due("1 painting", 0, x.painting(-1));
        due("1 painting 0", BAD, x.painting(0));
        due("1 billed", 0, x.billed(-1));
        due("1 next", NONE, x.next());
        due("1 back 0", STATE, x.back(0));
        due("1 back 1", STATE, x.back(1));
        int[] firsts = {10, 1, 0, 2, 3};
        for (int what = 0; what < firsts.length; what++) {
            due("1 tune " + what, firsts[what], x.tune(what, firsts[what]));
        }
        for (int l = 0; l < 12; l++) {
            due("1 sold from", 0, x.colour(l, 0));
            due("1 sold until", 999, x.colour(l, 1));
            due("1 alike", 0, x.colour(l, 2));
        }
    }

    private static void type() {
        CoatRows x = new CoatRows();
        due("2 no byte", BAD, x.type(1, 0));
        due("2 nine bytes", BAD, x.type(1, 9));
        due("2 below", BAD, x.type(1, -1));
        due("2 lowest", BAD, x.type(1, LOW));
        due("2 highest", BAD, x.type(1, HIGH));
        due("2 nothing typed", 0, x.count(3));
        due("2 one", 1, x.type(-1L, 1));
        due("2 eight", 9, x.type(-1L, 8));
        x.clear();
        due("2 only the lowest bytes", 7, x.type(0x5a726f6f6d306130L, 7));
        due("2 highest first", 8, x.type(0x7a7a3bL, 1));
        due("2 is room0a0;", 0, x.chip());
        for (int i = 1; i <= 49; i++) {
            due("2 fills", 8 * i, x.type(0x2020202020202020L, 8));
        }
        due("2 up to 399", 399, x.type(0, 7));
        due("2 full", FULL, x.type(0, 2));
        due("2 bad ahead of full", BAD, x.type(0, 0));
        due("2 the last", 400, x.type(0, 1));
        due("2 full again", FULL, x.type(0, 1));
        due("2 nothing changed", 400, x.count(3));
    }

    private static void clear() {
        CoatRows x = new CoatRows();
        due("3 empty", 0, x.clear());
        Checks.write(x, "room 0 a0;");
        due("3 ten bytes", 10, x.clear());
        due("3 empty then", 0, x.count(3));
        due("3 nothing is read", -10, x.chip());
    }

    private static void chip() {
        CoatRows x = new CoatRows();
        due("4 the first", 0, Checks.chip(x, "room 3 pores a1 l9 c0;"));
        due("4 the text is empty", 0, x.count(3));
        due("4 without blanks", 1, Checks.chip(x, "room5a0b1;"));
        due("4 with many blanks", 2, Checks.chip(x, "   room   0   pores   a   3   ;   "));
        due("4 ten coats", 3, Checks.chip(x, "room 0 a0a1a2a3a4a5a6a7a8a9;"));
        due("4 pores", 1, x.about(2, 1));
        due("4 full", FULL, Checks.chip(x, "room 0 a0;"));
        due("4 the text stays", 10, x.count(3));
        x.clear();
        due("4 full ahead of a fault", FULL, Checks.chip(x, "room 9"));
        due("4 still four", 4, x.count(0));
        CoatRows y = new CoatRows();
        due("4 fault", -15, Checks.chip(y, "room 6 a0;"));
        due("4 no chip", 0, y.count(0));
        due("4 text stays", 10, y.count(3));
        y.clear();
        due("4 then", 0, Checks.chip(y, "room 2 b4;"));
        due("4 a fault spoils nothing", -21, Checks.chip(y, "room 1 c5 c;"));
        due("4 room", 2, y.about(0, 0));
        due("4 colour", 1, y.coat(0, 0, 0));
        due("4 dirt", 4, y.coat(0, 0, 1));
        due("4 one coat", 1, y.about(0, 2));
    }

    private static void chipFaults() {
        Object[][] faults = {
            {"", 0}, {"  ", 2}, {"room", 4}, {"room ", 5}, {"rooms 0 a0;", 0}, {"rooma0;", 0}, {"roo m", 0}, {"roomz 0 a0;", 0}, {"zoom 0 a0;", 0}, {"room 0 lores a0;", 7}, {"Room 0 a0;", 0},
            {"room a", 5}, {"room 6", 5}, {"room 00", 5}, {"room 01", 5}, {"room 1000", 5}, {"room 0", 6}, {"room 0;", 6},
            {"room 0 pores;", 12}, {"room 0 pores pores", 13}, {"room 0 a0 pores", 10}, {"room 0 poresa0;", 7}, {"pores", 0},
            {"room 0 m0;", 7}, {"room 0 z0;", 7}, {"room 0 ab0;", 7}, {"room 0 a b", 9}, {"room 0 a;", 8}, {"room 0 a10;", 8},
            {"room 0 a00;", 8}, {"room 0 a 4294967296;", 9}, {"room 0 a0", 9}, {"room 0 a0  ", 11}, {"room 0 a0;;", 10},
            {"room 0 a0; x", 11}, {"room 0 a0;room", 10}, {"room 0 a0b1c2d3e4f5g6h7i8j9k0;", 27}, {"room 0 a0 0", 10},
            {"room 0 a0b1c2d3e4f5g6h7i8j9", 27}, {"room 0 a0,b0;", 9}, {"room 0 a0.", 9}, {"room\t0", 4}, {"room 0 a-1;", 8},
            {"\u0000", 0}, {"\u00ff", 0}, {"room 0 a0\u00e1;", 9}, {"room\u00b0", 4}, {";", 0}, {"0", 0}, {"stuff", 0},
            {"room 0 a0 room", 10}, {"room 0 A0;", 7}, {"room 0 a0 b0 stuff", 13}, {"room 0 alike", 7}, {"room room", 5},
        };
        for (Object[] fault : faults) {
            CoatRows x = new CoatRows();
            String text = (String) fault[0];
            due("4 fault of '" + text + "'", -10 - (Integer) fault[1], Checks.chip(x, text));
            due("4 no chip of it", 0, x.count(0));
            due("4 its text stays", text.length(), x.count(3));
        }
        due("4 a long text", -10 - 399, Checks.chip(new CoatRows(), "room 0 a0;" + " ".repeat(389) + "x"));
        due("4 a long text that ends early", -10 - 400, Checks.chip(new CoatRows(), "room 0 a0" + " ".repeat(391)));
        due("4 as many tokens as bytes", -10, Checks.chip(new CoatRows(), ";".repeat(400)));
        due("5 as many tokens as bytes", -10, Checks.book(new CoatRows(), "0a".repeat(200)));
        due("4 a long number", -10 - 5, Checks.chip(new CoatRows(), "room " + "9".repeat(395)));
    }

    private static void book() {
        CoatRows x = new CoatRows();
        due("5 nothing", 0, x.book());
        due("5 blanks", 0, Checks.book(x, "    "));
        due("5 items", 5, Checks.book(x, "stuff a 10 20;alike a b; bill 15 c ;stuff a 30 30;bill5l;"));
        due("5 the text is empty", 0, x.count(3));
        due("5 later counts, from", 30, x.colour(0, 0));
        due("5 later counts, until", 30, x.colour(0, 1));
        due("5 bills", 2, x.count(2));
        due("5 bill without blanks", 11, x.bill(1, 1));
        due("5 fault", -10 - 26, Checks.book(x, "stuff a 1 2;bill 3 d;alike;"));
        due("5 nothing changes, from", 30, x.colour(0, 0));
        due("5 nothing changes, alike", 2, x.colour(0, 2));
        due("5 nothing changes, bills", 2, x.count(2));
        due("5 nothing changes, bill", 15, x.bill(0, 0));
        due("5 nothing changes, text", 27, x.clear());
        due("5 a new book", 1, Checks.book(x, "stuff b 0 999;"));
        due("5 in the place of the old one, until", 999, x.colour(0, 1));
        due("5 in the place of the old one, alike", 0, x.colour(1, 2));
        due("5 in the place of the old one, bills", 0, x.count(2));
        due("5 eight bills", 8, Checks.book(x, "bill 0 a;".repeat(8)));
        due("5 as many as there is room for", 36, Checks.book(x, "stuff a0 9;".repeat(36)));
        due("5 chips stay", 0, Checks.chip(x, "room 0 a0;"));
        due("5 the book empties", 0, x.book());
        due("5 chips are still there", 1, x.count(0));
    }

    private static void bookFaults() {
        Object[][] faults = {
            {";", 0}, {"room 0 a0;", 0}, {"a", 0}, {"7", 0}, {"stuff", 5}, {"stuff;", 5}, {"stuff m", 6}, {"stuff a", 7},
            {"stuff a;", 7}, {"stuff a 1000", 8}, {"stuff a 01", 8}, {"stuff a 5", 9}, {"stuff a 5;", 9}, {"stuff a 5 4;", 10},
            {"stuff a 5 1000;", 10}, {"stuff a 5 5", 11}, {"stuff a 5 5 5", 12}, {"stuff a 5 5 bill", 12}, {"alike", 5},
            {"alike a", 7}, {"alike a;", 7}, {"alike a a;", 8}, {"alike a m;", 8}, {"alike a 0;", 8}, {"alike a b", 9},
            {"alike a b c;", 10}, {"alike ab;", 6}, {"bill", 4}, {"bill a", 5}, {"bill 1000 a;", 5}, {"bill 5", 6}, {"bill 5;", 6},
            {"bill 5 m;", 7}, {"bill 5 a", 8}, {"bill 5 a b;", 9}, {"bill 5 a;;", 9}, {"bill 5 a;bills", 9}, {"pores;", 0}, {"bill 5 ;", 7}, {"bill;", 4}, {"stuff a;", 7}, {"ztuff a 1 2;", 0}, {"zlike a b;", 0}, {"zill 5 a;", 0}, {"billz 5 a;", 0},
            {"bill 0 a;".repeat(8) + "bill 0 a;", 72}, {"bill 0 a;".repeat(8) + "bil", 72}, {"stuff a 1 2;?", 12},
            {"bill 5 a; \u00e9", 10}, {"alike l l;", 8}, {"alike b a; alike a b; alike b b", 30}, {"stuff a 999 998;", 12},
        };
        for (Object[] fault : faults) {
            CoatRows x = new CoatRows();
            String text = (String) fault[0];
            due("5 fault of '" + text + "'", -10 - (Integer) fault[1], Checks.book(x, text));
            due("5 no bill of it", 0, x.count(2));
            due("5 its text stays", text.length(), x.count(3));
        }
    }

    private static void drop() {
        CoatRows x = rows("", "room 0 a0;", "room 1 b1c1;", "room 2 c2;", "room 3 d3;");
        due("6 below", BAD, x.drop(-1));
        due("6 beyond", BAD, x.drop(4));
        due("6 lowest", BAD, x.drop(LOW));
        due("6 the second", 3, x.drop(1));
        due("6 the first stays", 0, x.about(0, 0));
        due("6 one less", 2, x.about(1, 0));
        due("6 one less, too", 3, x.about(2, 0));
        due("6 none there", BAD, x.about(3, 0));
        due("6 coats", 3, x.count(1));
        due("6 a new one comes last", 3, Checks.chip(x, "room 4 e4;"));
        due("6 the others stay", 3, x.coat(2, 0, 0));
        due("6 the last", 3, x.drop(3));
        due("6 the first", 2, x.drop(0));
        due("6 paintings follow", 2, x.painting(-1));
        due("6 then", 1, x.drop(0));
        due("6 none", 0, x.drop(0));
        due("6 none left", BAD, x.drop(0));
        due("6 no paintings", 0, x.painting(-1));
    }

    private static void about() {
        CoatRows x = rows("", "room 5 pores a0b0;", "room 0 c0;");
        due("7 room", 5, x.about(0, 0));
        due("7 pores", 1, x.about(0, 1));
        due("7 coats", 2, x.about(0, 2));
        due("7 no pores", 0, x.about(1, 1));
        due("7 no chip", BAD, x.about(2, 0));
        due("7 chip below", BAD, x.about(-1, 0));
        due("7 what below", BAD, x.about(0, -1));
        due("7 what beyond", BAD, x.about(0, 3));
        due("7 far", BAD, x.about(HIGH, LOW));
    }

    private static void coat() {
        CoatRows x = rows("", "room 0 a1b2;", "room 0 b3a9;");
        // The rows a b and b a are both in a b a, which comes ahead of b a b.
        due("8 colour", 1, x.coat(0, 1, 0));
        due("8 dirt", 9, x.coat(1, 1, 1));
        due("8 painting", 0, x.coat(0, 0, 2));
        due("8 painting of the same colour", 2, x.coat(1, 1, 2));
        due("8 painting in both", 1, x.coat(1, 0, 2));
        due("8 no coat", BAD, x.coat(0, 2, 0));
        due("8 coat below", BAD, x.coat(0, -1, 0));
        due("8 no chip", BAD, x.coat(2, 0, 0));
        due("8 what below", BAD, x.coat(0, 0, -1));
        due("8 what beyond", BAD, x.coat(0, 0, 3));
        due("8 far", BAD, x.coat(LOW, HIGH, HIGH));
    }

    private static void colour() {
        CoatRows x = rows("stuff b 7 7;alike b c;alike c d;alike c b;stuff l 0 998;");
        due("9 from", 7, x.colour(1, 0));
        due("9 until", 7, x.colour(1, 1));
        due("9 until of l", 998, x.colour(11, 1));
        due("9 alike both ways", 4, x.colour(1, 2));
        due("9 alike to two", 10, x.colour(2, 2));
        due("9 not further", 4, x.colour(3, 2));
        x.tune(2, 1);
        due("9 alike under the lamp, too", 10, x.colour(2, 2));
        due("9 below", BAD, x.colour(-1, 0));
        due("9 beyond", BAD, x.colour(12, 0));
        due("9 what below", BAD, x.colour(0, -1));
        due("9 what beyond", BAD, x.colour(0, 3));
        due("9 far", BAD, x.colour(HIGH, HIGH));
    }

    private static void tune() {
        int[] lows = {1, 0, 0, 0, 0};
        int[] highs = {50, 9, 1, 20, 9};
        int[] firsts = {10, 1, 0, 2, 3};
        CoatRows x = new CoatRows();
        for (int what = 0; what < 5; what++) {
            due("10 too low", BAD, x.tune(what, lows[what] - 1));
            due("10 too high", BAD, x.tune(what, highs[what] + 1));
            due("10 at first", firsts[what], x.tune(what, highs[what]));
            due("10 highest", highs[what], x.tune(what, lows[what]));
            due("10 lowest", lows[what], x.tune(what, lows[what]));
        }
        due("10 what below", BAD, x.tune(-1, 1));
        due("10 what beyond", BAD, x.tune(5, 1));
        due("10 far", BAD, x.tune(HIGH, 1));
        due("10 v far", BAD, x.tune(0, LOW));
    }

    private static void leastAndWays() {
        CoatRows x = rows("alike a b;alike b c;", "room 0 a0a5;", "room 1 a5;", "room 2 c5;", "room 3 b3;");
        due("11 beside the nearer dirt", 10, x.least(0, 1));
        due("11 the other way", 10, x.least(1, 0));
        due("12 one way", 1, x.ways(0, 1));
        due("11 not alike further", 20, x.least(1, 2));
        due("12 one way of nothing", 1, x.ways(1, 2));
        due("11 alike", 2, x.least(1, 3));
        due("11 alike the other way", 2, x.least(3, 2));
        x.tune(2, 1);
        due("11 not alike under the lamp", 20, x.least(1, 3));
        due("11 not alike under the lamp, back", 20, x.least(3, 1));
        x.tune(2, 0);
        x.tune(1, 0);
        due("11 dirt costs nothing", 10, x.least(0, 1));
        due("12 two ways", 2, x.ways(0, 1));
        due("12 two ways back", 2, x.ways(1, 0));
        x.tune(1, 9);
        x.tune(0, 9);
        due("11 as dear to miss both", 18, x.least(1, 3));
        due("12 beside or not", 2, x.ways(1, 3));
        x.tune(0, 1);
        due("11 cheaper to miss both", 2, x.least(1, 3));
        due("12 not beside", 1, x.ways(1, 3));
        due("11 itself", BAD, x.least(1, 1));
        due("12 itself", BAD, x.ways(1, 1));
        due("11 no chip", BAD, x.least(0, 4));
        due("12 no chip", BAD, x.ways(4, 0));
        due("11 below", BAD, x.least(-1, 0));
        due("12 below", BAD, x.ways(0, -1));
        due("11 far", BAD, x.least(HIGH, LOW));
        CoatRows y = rows("", "room 0 a0a0a0a0a0a0a0a0a0a0;", "room 0 a9a9a9a9a9a9a9a9a9a9;");
        y.tune(1, 2);
        y.tune(0, 9);
        // Each side by side costs as much as both missed: every set of as many coats of both, 20 over 10.
        due("11 dear dirt", 180, y.least(0, 1));
        due("12 the most ways", 184756, y.ways(0, 1));
        y.tune(0, 50);
        due("12 all side by side", 1, y.ways(0, 1));
    }

    private static void laid() {
        CoatRows x = rows("alike a b;", "room 0 a0a5c0;", "room 1 b5;", "room 2 c0a0;");
        due("13 missed", NONE, x.laid(0, 1, 0));
        due("13 beside", 0, x.laid(0, 1, 1));
        due("13 another colour", NONE, x.laid(0, 1, 2));
        due("13 the other way", 1, x.laid(1, 0, 0));
        // a0 beside a0 or c0 beside c0: the first coat is laid beside one rather than beside none.
        due("13 crossing", 1, x.laid(0, 2, 0));
        due("13 crossed", NONE, x.laid(0, 2, 2));
        due("13 crossing back", 2, x.laid(2, 0, 0));
        due("13 crossed back", NONE, x.laid(2, 0, 1));
        x.tune(1, 0);
        due("13 nearest the plaster", 0, x.laid(0, 1, 0));
        due("13 then none", NONE, x.laid(0, 1, 1));
        due("13 of two the nearer", 0, x.laid(1, 0, 0));
        x.tune(1, 4);
        due("13 as dear, rather beside", NONE, x.laid(0, 1, 0));
        CoatRows w = rows("", "room 0 a0b0b0c0;", "room 0 b0a0b0b0c0;");
        int[] laid = {1, 2, 3, 4};
        for (int k = 0; k < laid.length; k++) {
            due("13 one behind the other " + k, laid[k], w.laid(0, 1, k));
        }
        int[] back = {NONE, 0, 1, 2, 3};
        for (int k = 0; k < back.length; k++) {
            due("13 one behind the other, back " + k, back[k], w.laid(1, 0, k));
        }
        due("13 itself", BAD, x.laid(0, 0, 0));
        due("13 no chip", BAD, x.laid(0, 3, 0));
        due("13 no coat", BAD, x.laid(0, 1, 3));
        due("13 a coat of the other", BAD, x.laid(1, 0, 1));
        due("13 coat below", BAD, x.laid(0, 1, -1));
        due("13 far", BAD, x.laid(LOW, HIGH, LOW));
        CoatRows y = rows("", "room 0 a0;", "room 0 a5;");
        y.tune(1, 4);
        due("13 beside none comes last", 0, y.laid(0, 1, 0));
        y.tune(1, 5);
        due("13 beside none", NONE, y.laid(0, 1, 0));
    }

    private static void painting() {
        CoatRows x = rows("", "room 0 b0a0;", "room 0 a0b0;");
        due("14 how many", 3, x.painting(-1));
        due("14 first by colours", 0, x.painting(0));
        due("14 then", 1, x.painting(1));
        due("14 at last", 0, x.painting(2));
        due("14 beyond", BAD, x.painting(3));
        due("14 below", BAD, x.painting(-2));
        due("14 far", BAD, x.painting(LOW));
        CoatRows y = rows("alike b c;alike c d;", "room 0 b0;", "room 0 d0;");
        due("14 one for both", 1, y.painting(-1));
        due("14 of a colour that no chip has", 2, y.painting(0));
        y.tune(2, 1);
        due("14 under the lamp", 2, y.painting(-1));
        due("14 the lesser ahead", 1, y.painting(0));
        due("14 the greater behind", 3, y.painting(1));
        y.drop(0);
        y.tune(2, 0);
        due("14 the first that could be", 2, y.painting(0));
        y.book();
        due("14 of another book", 3, y.painting(0));
        CoatRows w = rows("", "room 0 c0;", "room 0 b0a0;", "room 0 a0c0;");
        int[] row = {1, 0, 2};
        due("14 three", 3, w.painting(-1));
        for (int k = 0; k < row.length; k++) {
            due("14 the one row that is for all " + k, row[k], w.painting(k));
        }
        CoatRows z = rows("", "room 0 a0b0a0b0a0b0a0b0a0b0;", "room 0 c0d0c0d0c0d0c0d0c0d0;", "room 0 e0f0e0f0e0f0e0f0e0f0;",
            "room 0 g0h0g0h0g0h0g0h0g0h0;");
        due("14 the most", 40, z.painting(-1));
        due("14 the tenth", 1, z.painting(9));
        due("14 the last", 7, z.painting(39));
        due("14 behind the last", BAD, z.painting(40));
    }

    private static void had() {
        CoatRows x = rows("alike c d;", "room 0 a0b0;", "room 1 b0a0;", "room 2 d0;");
        // a b a and c for d: the first by colours is a b a c.
        due("15 of the first", 1, x.had(0));
        due("15 of two", 3, x.had(1));
        due("15 of the second", 2, x.had(2));
        due("15 by an alike colour", 4, x.had(3));
        due("15 not how many", BAD, x.had(-1));
        due("15 beyond", BAD, x.had(4));
        due("15 far", BAD, x.had(HIGH));
        due("15 no chips", BAD, new CoatRows().had(0));
        CoatRows y = rows("", "room 0 a0;", "room 0 a0a0;");
        due("15 the first that could be", 3, y.had(0));
        due("15 not the later", 2, y.had(1));
    }

    private static void face() {
        CoatRows x = rows("", "room 0 a0b0c0d0;", "room 1 pores b0d0;", "room 2 c0;", "room 3 pores a0d0;");
        int[][] dues = {{0, 0, 0}, {1, 1, 1}, {0, 2, 2}, {2, 0, 0}};
        for (int c = 0; c < 4; c++) {
            for (int what = 0; what < 3; what++) {
                due("16 face " + c + " " + what, dues[c][what], x.face(c, what));
            }
        }
        due("16 no chip", BAD, x.face(4, 0));
        due("16 below", BAD, x.face(-1, 0));
        due("16 what below", BAD, x.face(0, -1));
        due("16 what beyond", BAD, x.face(0, 4));
        due("16 far", BAD, x.face(HIGH, 0));
    }

    private static void moved() {
        CoatRows x = rows("", "room 4 a0;");
        due("16 no other", NONE, x.face(0, 3));
        Checks.chip(x, "room 3 a1;");
        due("16 the only other", 3, x.face(0, 3));
        Checks.chip(x, "room 2 a1;");
        due("16 the lesser number", 3, x.face(0, 3));
        Checks.chip(x, "room 4 a1;");
        due("16 its own is as near", 4, x.face(0, 3));
        due("16 nearer than its own", 2, x.face(1, 3));
        x.drop(3);
        Checks.chip(x, "room 4 a2;");
        due("16 its own is farther", 3, x.face(0, 3));
        x.tune(1, 0);
        due("16 all as near", 4, x.face(0, 3));
        due("16 of the others as near the first", 4, x.face(1, 3));
        CoatRows y = rows("", "room 1 a0;", "room 1 a0;", "room 0 a0;");
        due("16 its own comes first", 1, y.face(0, 3));
        due("16 of others", 1, y.face(2, 3));
    }

    private static void span() {
        CoatRows x = rows("stuff a 100 200;stuff b 90 151;", "room 0 a3b0;", "room 1 a5;");
        // b comes 2 times 5, and 1, behind a.
        due("17 earliest", 100, x.span(0, 0));
        due("17 latest", 140, x.span(0, 1));
        due("17 earliest of b", 111, x.span(1, 0));
        due("17 latest of b", 151, x.span(1, 1));
        due("17 no painting", BAD, x.span(2, 0));
        due("17 below", BAD, x.span(-1, 0));
        due("17 what below", BAD, x.span(0, -1));
        due("17 what beyond", BAD, x.span(0, 2));
        due("17 far", BAD, x.span(HIGH, 0));
        x.tune(3, 0);
        due("17 a year behind without waiting", 101, x.span(1, 0));
        x.tune(3, 10);
        due("17 just so", 100, x.span(0, 0));
        due("17 just so, too", 100, x.span(0, 1));
        due("17 just so of b", 151, x.span(1, 0));
        x.tune(3, 9);
        due("17 the latest year", 105, x.span(0, 1));
        x.tune(3, 20);
        due("17 it can't be", NONE, x.span(0, 0));
        due("17 none of them can", NONE, x.span(1, 1));
        due("17 no painting even so", BAD, x.span(2, 0));
        CoatRows y = rows("alike a b;stuff a 5 6;", "room 0 b9;");
        due("17 of the painting's colour", 5, y.span(0, 0));
        due("17 dirt on the last is free", 6, y.span(0, 1));
        CoatRows z = rows("", "room 0 a9a9a9a9a9a9a9a9a9a0;");
        z.tune(3, 20);
        due("17 too long", NONE, z.span(0, 0));
        z.tune(3, 12);
        due("17 long", 9 * 109, z.span(9, 0));
        due("17 long, latest", 999 - 9 * 109, z.span(0, 1));
    }

    private static void day() {
        CoatRows x = rows("stuff a 10 20;stuff b 15 30;stuff c 40 50;", "room 0 a0b0c0;", "room 1 b0;");
        int none = 1 << 10;
        due("18 none yet", none, x.day(0, 9));
        due("18 perhaps the first", none | 1, x.day(0, 10));
        due("18 perhaps", none | 1 | 2, x.day(0, 15));
        due("18 surely one", 1 | 2, x.day(0, 20));
        due("18 surely the second", 2, x.day(0, 30));
        due("18 still", 2, x.day(0, 39));
        due("18 perhaps the last", 2 | 4, x.day(0, 40));
        due("18 surely the last", 4, x.day(0, 50));
        due("18 the last year", 4, x.day(0, 999));
        due("18 the first year", none, x.day(0, 0));
        due("18 of the other", none | 1, x.day(1, 29));
        due("18 of the other, surely", 1, x.day(1, 30));
        due("18 no chip", BAD, x.day(2, 0));
        due("18 below", BAD, x.day(-1, 0));
        due("18 year below", BAD, x.day(0, -1));
        due("18 year beyond", BAD, x.day(0, 1000));
        due("18 far", BAD, x.day(0, HIGH));
        Checks.book(x, "stuff a 500 600;stuff b 0 500;");
        due("18 spans can't be", 0, x.day(0, 500));
        due("18 no chip even so", BAD, x.day(4, 500));
    }

    private static void bill() {
        CoatRows x = rows("bill 999 l;bill 0 a;");
        due("19 year", 999, x.bill(0, 0));
        due("19 colour", 11, x.bill(0, 1));
        due("19 year of the second", 0, x.bill(1, 0));
        due("19 no bill", BAD, x.bill(2, 0));
        due("19 below", BAD, x.bill(-1, 0));
        due("19 what below", BAD, x.bill(0, -1));
        due("19 what beyond", BAD, x.bill(0, 2));
        due("19 far", BAD, x.bill(HIGH, 0));
    }

    private static void billedRow(String what, CoatRows x, int many, int... row) {
        due("20 " + what + ": how many", many, x.billed(-1));
        for (int k = 0; k < row.length; k++) {
            due("20 " + what + ": painting " + k, row[k], x.billed(k));
        }
        due("20 " + what + ": no painting", BAD, x.billed(row.length));
    }

    private static void billed() {
        billedRow("the most", rows("bill 5 a;bill 5 a;bill 3 a;bill 7 b;", "room 0 a0a0b0;"), 3, 3, 1, 4);
        billedRow("the least row", rows("bill 5 a;", "room 0 a0a0;"), 1, 0, 1);
        billedRow("the lesser bill", rows("bill 6 a;bill 5 a;", "room 0 a0;"), 1, 1);
        billedRow("never the same year", rows("bill 5 a;bill 5 b;", "room 0 a0b0;"), 1, 0, 2);
        billedRow("later years for later ones", rows("bill 6 a;bill 5 b;", "room 0 a0b0;"), 1, 0, 2);
        billedRow("just its colour", rows("alike a b;bill 5 b;", "room 0 b0;"), 0, 0);
        billedRow("in its span", rows("stuff a 10 20;bill 9 a;bill 21 a;", "room 0 a0;"), 0, 0);
        billedRow("at the ends of its span", rows("stuff a 10 20;bill 20 a;bill 10 a;", "room 0 a0;"), 1, 1);
        billedRow("each span by itself", rows("stuff a 0 9;stuff b 0 9;bill 4 a;bill 6 b;", "room 0 a2b0;"), 2, 1, 2);
        billedRow("spans can't be", rows("stuff a 9 9;stuff b 0 8;bill 9 a;", "room 0 a0b0;"), 0, 0, 0);
        billedRow("none twice", rows("bill 3 a;bill 3 a;", "room 0 a0a0a0;"), 1, 0, 0, 1);
        billedRow("none between", rows("bill 3 a;bill 2 b;bill 4 b;bill 3 c;", "room 0 b0a0c0b0;"), 3, 2, 0, 4, 3);
        billedRow("the last one counts", rows("bill 9 a;bill 4 b;bill 8 c;", "room 0 a0b0c0;"), 2, 0, 2, 3);
        billedRow("no chips", rows("bill 5 a;"), 0);
        billedRow("eight", rows("bill 8 a;bill 7 a;bill 6 a;bill 5 a;bill 4 a;bill 3 a;bill 2 a;bill 1 a;",
            "room 0 a0a0a0a0a0a0a0a0a0;"), 8, 0, 8, 7, 6, 5, 4, 3, 2, 1);
        CoatRows z = rows("bill 30 g;bill 40 h;", "room 0 a0b0a0b0a0b0a0b0a0b0;", "room 0 c0d0c0d0c0d0c0d0c0d0;",
            "room 0 e0f0e0f0e0f0e0f0e0f0;", "room 0 g0h0g0h0g0h0g0h0g0h0;");
        due("20 forty paintings", 2, z.billed(-1));
        due("20 the last of forty", 2, z.billed(39));
        due("20 the only one early enough", 1, z.billed(30));
        while (z.count(0) > 1) {
            z.drop(0);
        }
        billedRow("after more paintings", z, 2, 0, 0, 0, 0, 0, 0, 0, 0, 1, 2);
        Checks.chip(z, "room 0 g0;");
        z.drop(0);
        billedRow("after ten paintings", z, 1, 1);
        CoatRows x = rows("bill 5 a;", "room 0 a0;");
        due("20 below", BAD, x.billed(-2));
        due("20 far", BAD, x.billed(HIGH));
        due("20 lowest", BAD, x.billed(LOW));
    }

    private static void enough() {
        CoatRows x = new CoatRows();
        due("21 seven of ten", 1, x.enough(1, 70));
        due("21 more", 2, x.enough(1, 71));
        due("21 two coats", 1, x.enough(2, 49));
        due("21 two coats, more", 2, x.enough(2, 50));
        due("21 rounded down, never all", NONE, x.enough(1, 100));
        due("21 nothing asked", 1, x.enough(10, 0));
        due("21 no coats", BAD, x.enough(0, 50));
        due("21 too many", BAD, x.enough(11, 50));
        due("21 odds below", BAD, x.enough(1, -1));
        due("21 odds beyond", BAD, x.enough(1, 101));
        due("21 far", BAD, x.enough(HIGH, LOW));
        x.tune(4, 0);
        due("21 nothing lacks", 1, x.enough(10, 100));
        x.tune(4, 9);
        due("21 much lacks", 9, x.enough(1, 61));
        due("21 too much", NONE, x.enough(1, 62));
        x.tune(4, 5);
        // By one chip 500000, by two 750000, by three 875000: three coats 421875 by two, 669921 by three.
        due("21 three coats", 3, x.enough(3, 66));
        due("21 three coats, less", 2, x.enough(3, 42));
        due("21 three coats, more", 4, x.enough(3, 67));
    }

    private static void next() {
        CoatRows x = rows("", "room 4 a0b0c0;", "room 2 a0b0;", "room 5 c0;");
        due("22 the most unseen", 5, x.next());
        Checks.chip(x, "room 5 a0b0;");
        due("22 of both its chips", 2, x.next());
        x.drop(1);
        due("22 none unseen, the least room", 4, x.next());
        x.drop(0);
        x.drop(0);
        due("22 the only room", 5, x.next());
        x.drop(0);
        due("22 no chips", NONE, x.next());
        CoatRows y = rows("", "room 3 a0;", "room 1 b0;");
        due("22 of several the least", 1, y.next());
        CoatRows z = rows("", "room 5 a0;", "room 0 b0;");
        due("22 room 0", 0, z.next());
        CoatRows w = rows("", "room 3 a0b0c0;", "room 2 a0;", "room 1 b0c0;", "room 0 a0b0c0;");
        due("22 whose own chip has the fewest", 2, w.next());
    }

    private static void rank() {
        CoatRows x = rows("", "room 0 pores a3c7;", "room 1 c2;");
        int[] dues = {3, 6, 10, 5, 20, 23};
        for (int kind = 0; kind < 6; kind++) {
            due("23 kind " + kind, dues[kind], x.rank(kind, 0, 1));
        }
        due("23 varnish without pores", 3, x.rank(5, 1, 0));
        due("23 kind below", NO, x.rank(-1, 0, 0));
        due("23 kind beyond", NO, x.rank(6, 0, 0));
        due("23 no chip", NO, x.rank(0, 2, 0));
        due("23 chip below", NO, x.rank(0, -1, 0));
        due("23 no coat", NO, x.rank(0, 1, 1));
        due("23 coat below", NO, x.rank(0, 0, -1));
        due("23 far", NO, x.rank(HIGH, HIGH, HIGH));
        CoatRows y = rows("", "room 0 b0b0b0b0a0;");
        due("23 below 0", 1 - 4, y.rank(3, 0, 4));
    }

    private static void keepAndBack() {
        CoatRows x = rows("bill 5 a;", "room 1 a1b1;", "room 2 pores c2;");
        due("24 below", BAD, x.keep(-1));
        due("24 beyond", BAD, x.keep(2));
        due("25 below", BAD, x.back(-1));
        due("25 beyond", BAD, x.back(2));
        due("25 none was kept", STATE, x.back(0));
        due("24 two chips", 2, x.keep(0));
        due("25 not the other", STATE, x.back(1));
        x.drop(0);
        Checks.chip(x, "room 3 d3;");
        Checks.chip(x, "room 4 e4;");
        due("24 three", 3, x.keep(1));
        x.drop(0);
        x.drop(0);
        x.drop(0);
        Checks.chip(x, "room 5 f5g5h5;");
        x.tune(0, 7);
        Checks.book(x, "bill 6 b;bill 7 c;");
        Checks.write(x, "room");
        x.rank(0, 0, 0);
        due("25 two", 2, x.back(0));
        due("25 paintings follow", 3, x.painting(-1));
        due("25 room", 1, x.about(0, 0));
        due("25 coats", 3, x.count(1));
        due("25 pores", 1, x.about(1, 1));
        due("25 colour", 2, x.coat(1, 0, 0));
        due("25 dirt", 2, x.coat(1, 0, 1));
        due("25 tunes stay", 7, x.tune(0, 7));
        due("25 the book stays", 2, x.count(2));
        due("25 the text stays", 4, x.count(3));
        due("25 the trace stays", 1, x.trace());
        x.drop(1);
        due("25 fewer paintings", 2, x.painting(-1));
        due("25 again", 2, x.back(0));
        due("25 its paintings again", 3, x.painting(-1));
        due("25 the other", 3, x.back(1));
        due("25 its chips", 4, x.about(2, 0));
        due("25 its first", 2, x.about(0, 0));
        CoatRows y = new CoatRows();
        due("24 no chips", 0, y.keep(1));
        Checks.chip(y, "room 0 a0;");
        due("25 no chips again", 0, y.back(1));
        due("25 none", 0, y.count(0));
        due("25 no paintings", 0, y.painting(-1));
    }

    private static void count() {
        CoatRows x = rows("bill 5 a;stuff a 0 9;bill 6 b;", "room 1 a1b1;", "room 2 c2;");
        Checks.write(x, "abc");
        due("26 chips", 2, x.count(0));
        due("26 coats", 3, x.count(1));
        due("26 bills", 2, x.count(2));
        due("26 bytes", 3, x.count(3));
        due("26 below", BAD, x.count(-1));
        due("26 beyond", BAD, x.count(4));
        due("26 far", BAD, x.count(LOW));
    }

    private static void trace() {
        CoatRows x = rows("", "room 0 a1;");
        int[] more = {1, 11, 101, 1011, 10101, 100001};
        long all = 0;
        for (int kind = 0; kind < 6; kind++) {
            x.rank(kind, 0, 0);
            all += more[kind];
            due("27 kind " + kind, all, x.trace());
        }
        x.rank(6, 0, 0);
        x.rank(0, 1, 0);
        x.rank(0, 0, 1);
        due("27 refused", all, x.trace());
        x.keep(0);
        x.rank(0, 0, 0);
        x.back(0);
        due("27 of all calls ever", all + 1, x.trace());
    }
}
