/** The boundaries that the document names for two rows, paintings, years, how many, kinds and images, promise by promise. */
public final class EdgesTest {
    private static final int BAD = -1, STATE = -2, FULL = -3, NONE = -9, NO = -1000000;
    private static final int LOW = Integer.MIN_VALUE, HIGH = Integer.MAX_VALUE;
    private static final Checks CHECKS = new Checks();
    /** Forty coats of which no two can be one painting; the fewest paintings are the four rows one behind the other. */
    private static final String[] FORTY = {"room 0 a9a9a9a9a9a9a9a9a9l9;", "room 1 b0b0b0b0b0b0b0b0b0b0;",
        "room 2 pores c0c0c0c0c0c0c0c0c0c0;", "room 5 d0d0d0d0d0d0d0d0d0d0;"};

    public static void main(String[] args) {
        newObject();
        objectsApart();
        fiveHundredAndTwelveCalls();
        typeBytes();
        clearAll();
        dropEach();
        leastBounds();
        waysBounds();
        laidNoneLast();
        noChipsNoPaintings();
        oneToFortyPaintings();
        firstByColours();
        hadFirstOnes();
        missedBetween();
        faces();
        movedOrNot();
        spanEnds();
        spanWaits();
        spanOfTheMostDirt();
        dayEnds();
        dayOfTenCoats();
        billsInSpans();
        billsOneEach();
        billsOfForty();
        enoughBounds();
        nextRoom();
        rankBounds();
        imagesKeepChips();
        counts();
        traceOfAll();
        CHECKS.end("EdgesTest");
    }

    private static void due(String what, long want, long got) {
        CHECKS.due(what, want, got);
    }

    private static CoatRows rows(String book, String... chips) {
        return Checks.rows(book, chips);
    }

    // ---- promises 1 to 6

    private static void newObject() {
        CoatRows x = new CoatRows();
        for (int what = 0; what < 4; what++) {
            due("1 count " + what, 0, x.count(what));
        }
        due("1 trace", 0, x.trace());
        due("1 paintings", 0, x.painting(-1));
        due("1 bills", 0, x.billed(-1));
        due("1 next", NONE, x.next());
        due("1 clear", 0, x.clear());
        due("1 image 0", STATE, x.back(0));
        due("1 image 1", STATE, x.back(1));
        due("1 an empty text is no chip", -10, x.chip());
        due("1 an empty text is a book", 0, x.book());
        due("1 no chip", BAD, x.about(0, 0));
        due("1 no coat", BAD, x.coat(0, 0, 0));
        due("1 no painting", BAD, x.painting(0));
        due("1 no bill", BAD, x.bill(0, 0));
        due("1 no span", BAD, x.span(0, 0));
        due("1 no day", BAD, x.day(0, 0));
        due("1 no rank", NO, x.rank(0, 0, 0));
        due("1 no two", BAD, x.least(0, 1));
        due("1 enough, with three tenths lacking", 2, x.enough(1, 91));
        CoatRows y = new CoatRows();
        for (int l = 0; l < 12; l++) {
            due("1 sold from", 0, y.colour(l, 0));
            due("1 sold until", 999, y.colour(l, 1));
            due("1 alike to none", 0, y.colour(l, 2));
        }
    }

    private static void objectsApart() {
        CoatRows x = new CoatRows();
        CoatRows y = new CoatRows();
        Checks.chip(x, "room 1 a1;");
        Checks.book(x, "stuff a 5 6;alike a b;bill 7 a;");
        x.keep(0);
        x.tune(0, 3);
        x.rank(0, 0, 0);
        Checks.write(x, "room");
        for (int what = 0; what < 4; what++) {
            due("1 nothing of another object " + what, 0, y.count(what));
        }
        due("1 nor its image", STATE, y.back(0));
        due("1 nor its tunes", 10, y.tune(0, 10));
        due("1 nor its trace", 0, y.trace());
        due("1 nor its years", 0, y.colour(0, 0));
        due("1 nor what is alike there", 0, y.colour(0, 2));
        due("1 nor its paintings", 0, y.painting(-1));
    }

    // "An object is used for at most 512 calls after it has been made"
    private static void fiveHundredAndTwelveCalls() {
        CoatRows x = new CoatRows();
        Checks.chip(x, "room 0 a0;");
        int calls = 4;
        while (calls < 511) {
            due("512 rank", 1, x.rank(5, 0, 0));
            calls++;
        }
        due("512 the last of them", 507L * 100001, x.trace());
        CoatRows y = new CoatRows();
        for (int i = 0; i < 51; i++) {
            due("512 type", 8, y.type(0x726f6f6d30613020L, 8));
            due("512 type the end", 9, y.type(';', 1));
            due("512 chip", 0, y.chip());
            due("512 painting", 1, y.painting(-1));
            due("512 keep", 1, y.keep(0));
            due("512 drop", 0, y.drop(0));
            due("512 no painting", 0, y.painting(-1));
            due("512 back", 1, y.back(0));
            due("512 painting again", 1, y.painting(-1));
            due("512 drop again", 0, y.drop(0));
        }
        due("512 the last but one", 0, y.count(0));
        due("512 the last", 1, y.back(0));
    }

    // "The lowest n (1 .. 8) bytes of v, the highest of them first"
    private static void typeBytes() {
        String text = "room5l9;";
        long v = 0x726f6f6d356c393bL;
        for (int n = 1; n <= 8; n++) {
            CoatRows x = new CoatRows();
            Checks.write(x, text.substring(0, 8 - n));
            due("2 the lowest " + n + " bytes", 8, x.type(v | (n < 8 ? -1L << 8 * n : 0), n));
            due("2 are its end", 0, x.chip());
            due("2 with its dirt", 9, x.coat(0, 0, 1));
            CoatRows y = new CoatRows();
            due("2 how many of " + n, n, y.type(LOW, n));
            due("2 how many then", n + 1, y.type(HIGH, 1));
        }
        for (int n : new int[] {LOW, -8, -1, 0, 9, 16, 257, 264, HIGH}) {
            CoatRows x = new CoatRows();
            due("2 not " + n + " bytes", BAD, x.type(v, n));
            due("2 nothing comes of it", 0, x.count(3));
        }
        for (int n = 1; n <= 8; n++) {
            CoatRows x = new CoatRows();
            Checks.write(x, " ".repeat(400 - n));
            due("2 one more than there is room for", n == 8 ? BAD : FULL, x.type(v, n + 1));
            due("2 none of them came", 400 - n, x.count(3));
            due("2 as many as there is room for", 400, x.type(v, n));
            due("2 no room", FULL, x.type(v, 1));
            due("2 not as told, ahead of no room", BAD, x.type(v, 0));
            due("2 not as told, ahead of no room", BAD, x.type(v, 9));
        }
    }

    private static void clearAll() {
        CoatRows x = new CoatRows();
        due("3 of nothing", 0, x.clear());
        x.type(0, 1);
        due("3 of one byte", 1, x.clear());
        Checks.write(x, " ".repeat(400));
        due("3 of a full text", 400, x.clear());
        due("3 nothing is left", 0, x.clear());
        due("3 there is room again", 8, x.type(0, 8));
        CoatRows y = rows("bill 5 a;", "room 0 a0;");
        Checks.write(y, "room 1 b1;");
        due("3 only the text", 10, y.clear());
        due("3 not chips", 1, y.count(0));
        due("3 not the book", 1, y.count(2));
        due("3 no chip of it", -10, y.chip());
    }

    // "those behind it are one less; how many are left"
    private static void dropEach() {
        for (int c = 0; c < 4; c++) {
            CoatRows x = rows("bill 5 a;", "room 0 a0;", "room 1 b1b1;", "room 2 c2c2c2;", "room 3 d3d3d3d3;");
            Checks.write(x, "room");
            due("6 one beyond", BAD, x.drop(4));
            due("6 chip " + c, 3, x.drop(c));
            for (int now = 0; now < 3; now++) {
                int was = now < c ? now : now + 1;
                due("6 room", was, x.about(now, 0));
                due("6 coats", was + 1, x.about(now, 2));
                due("6 colour", was, x.coat(now, was, 0));
                due("6 dirt", was, x.coat(now, was, 1));
            }
            due("6 no fourth", BAD, x.about(3, 0));
            due("6 nor to drop", BAD, x.drop(3));
            due("6 paintings", 10 - c - 1, x.painting(-1));
            due("6 the book stays", 1, x.count(2));
            due("6 the text stays", 4, x.count(3));
            due("6 the last", 2, x.drop(2));
            due("6 one", 1, x.drop(0));
            due("6 none", 0, x.drop(0));
            due("6 none to drop", BAD, x.drop(0));
            due("6 still none", 0, x.count(0));
        }
    }

    // ---- promises 11 to 13

    private static void leastBounds() {
        CoatRows x = rows("", "room 0 a0;", "room 1 a9;", "room 2 b0;", "room 3 a0;");
        due("11 as they are", 0, x.least(0, 3));
        due("11 dirt differs by the most", 9, x.least(0, 1));
        due("11 the other way", 9, x.least(1, 0));
        due("11 none side by side", 20, x.least(0, 2));
        x.tune(1, 9);
        x.tune(0, 41);
        due("11 a little dearer to miss both", 81, x.least(0, 1));
        x.tune(0, 40);
        due("11 a little cheaper to miss both", 80, x.least(0, 1));
        x.tune(0, 1);
        due("11 the least to miss", 2, x.least(0, 1));
        due("11 the least to miss another", 2, x.least(0, 2));
        x.tune(0, 50);
        due("11 the most to miss", 100, x.least(0, 2));
        x.tune(1, 0);
        due("11 dirt is nothing", 0, x.least(0, 1));
        CoatRows y = rows("", FORTY[0], FORTY[1], "room 0 a0a0a0a0a0a0a0a0a0l0;");
        y.tune(0, 50);
        due("11 the most that it can be", 1000, y.least(0, 1));
        y.tune(1, 9);
        due("11 the most for dirt", 810, y.least(0, 2));
        due("11 one and the same", BAD, y.least(2, 2));
        due("11 the last chip", 1000, y.least(1, 2));
        due("11 behind the last", BAD, y.least(1, 3));
        due("11 behind the last, too", BAD, y.least(3, 1));
        due("11 ahead of the first", BAD, y.least(-1, 0));
    }

    private static void waysBounds() {
        CoatRows x = rows("", "room 0 a0;", "room 1 a9;", "room 2 b0;", FORTY[0]);
        due("12 side by side", 1, x.ways(0, 1));
        due("12 all missed is one way", 1, x.ways(0, 2));
        x.tune(0, 9);
        x.tune(1, 2);
        due("12 beside or missed, as dear", 2, x.ways(0, 1));
        x.tune(0, 10);
        due("12 dearer to miss", 1, x.ways(0, 1));
        x.tune(0, 8);
        due("12 cheaper to miss", 1, x.ways(0, 1));
        x.tune(1, 1);
        due("12 one beside one of nine", 9, x.ways(1, 3));
        due("12 one of nine beside one", 9, x.ways(3, 1));
        due("12 one and the same", BAD, x.ways(3, 3));
        due("12 behind the last", BAD, x.ways(3, 4));
        due("12 behind the last, too", BAD, x.ways(4, 3));
        due("12 ahead of the first", BAD, x.ways(0, -1));
    }

    // "(beside none last)"
    private static void laidNoneLast() {
        CoatRows x = rows("", "room 0 a0;", "room 1 a9;", "room 2 b0a0a0;", "room 3 a0b0a0;");
        x.tune(0, 9);
        x.tune(1, 2);
        due("13 beside, if as dear", 0, x.laid(0, 1, 0));
        x.tune(0, 8);
        due("13 none, if cheaper", NONE, x.laid(0, 1, 0));
        due("13 as near the plaster as may be", 1, x.laid(0, 2, 0));
        due("13 beside the first", 0, x.laid(0, 3, 0));
        int[] row = {1, 2, NONE};
        int[] back = {1, NONE, 2};
        for (int k = 0; k < 3; k++) {
            due("13 the first ahead of the others " + k, row[k], x.laid(2, 3, k));
            due("13 the other way " + k, back[k], x.laid(3, 2, k));
        }
        due("13 no coat", BAD, x.laid(0, 2, 1));
        due("13 no coat of the one, though of the other", BAD, x.laid(0, 2, 2));
        due("13 the first that can be beside it", 0, x.laid(2, 0, 1));
        due("13 the last coat of the one", NONE, x.laid(2, 0, 2));
        due("13 behind the last coat", BAD, x.laid(2, 0, 3));
        due("13 ahead of the first coat", BAD, x.laid(2, 0, -1));
        due("13 one and the same", BAD, x.laid(2, 2, 0));
        due("13 behind the last chip", BAD, x.laid(0, 4, 0));
        due("13 behind the last chip, too", BAD, x.laid(4, 0, 0));
        CoatRows y = rows("", FORTY[0], "room 0 a9a9a9a9a9a9a9a9a9l9;", FORTY[1]);
        for (int k = 0; k < 10; k++) {
            due("13 ten beside ten", k, y.laid(0, 1, k));
            due("13 ten beside none", NONE, y.laid(0, 2, k));
        }
        due("13 an eleventh", BAD, y.laid(0, 1, 10));
    }

    // ---- promises 14 to 16

    // "(Without CHIPS none.)"
    private static void noChipsNoPaintings() {
        CoatRows x = rows("stuff a 5 6;bill 5 a;");
        for (int round = 0; round < 2; round++) {
            due("14 none", 0, x.painting(-1));
            due("14 not the first", BAD, x.painting(0));
            due("15 not the first", BAD, x.had(0));
            due("17 not the first", BAD, x.span(0, 0));
            due("20 none", 0, x.billed(-1));
            due("20 not the first", BAD, x.billed(0));
            due("22 no room", NONE, x.next());
            Checks.chip(x, "room 0 a0;");
            due("14 one", 1, x.painting(-1));
            due("20 one", 1, x.billed(-1));
            due("22 a room", 0, x.next());
            x.drop(0);
        }
    }

    private static void oneToFortyPaintings() {
        CoatRows x = rows("", "room 0 l9;");
        due("14 one", 1, x.painting(-1));
        due("14 its colour", 11, x.painting(0));
        due("14 no second", BAD, x.painting(1));
        due("14 below how many", BAD, x.painting(-2));
        due("15 its chip", 1, x.had(0));
        due("15 no second", BAD, x.had(1));
        due("15 how many is not asked", BAD, x.had(-1));
        CoatRows y = rows("", FORTY);
        int[] colours = {0, 1, 2, 3};
        due("14 forty", 40, y.painting(-1));
        for (int k = 0; k < 9; k++) {
            due("14 the first chip's", 0, y.painting(k));
            due("15 the first chip's", 1, y.had(k));
        }
        for (int c = 1; c < 4; c++) {
            due("14 the others' first", colours[c], y.painting(10 * c - 1));
            due("14 the others' last", colours[c], y.painting(10 * c + 8));
            due("15 the others' first", 1 << c, y.had(10 * c - 1));
            due("15 the others' last", 1 << c, y.had(10 * c + 8));
            due("8 the others' first", 10 * c - 1, y.coat(c, 0, 2));
        }
        due("14 the last", 11, y.painting(39));
        due("15 the last", 1, y.had(39));
        due("8 the last", 39, y.coat(0, 9, 2));
        due("14 behind the last", BAD, y.painting(40));
        due("15 behind the last", BAD, y.had(40));
        due("17 behind the last", BAD, y.span(40, 0));
        due("20 behind the last", BAD, y.billed(40));
        CoatRows z = rows("", FORTY[0], FORTY[0], FORTY[0], FORTY[0]);
        due("14 all rows as one", 10, z.painting(-1));
        due("15 all have it", 15, z.had(9));
        String ten = "room 0 a0a0a0a0a0a0a0a0a0a0;";
        CoatRows w = rows("", ten, ten, ten, ten);
        due("14 all coats of one colour", 10, w.painting(-1));
        due("15 all have the last", 15, w.had(9));
    }

    // "Of several rows the first by COLOURS."; "(each COAT by itself with its PAINTING)"
    private static void firstByColours() {
        CoatRows x = rows("", "room 0 b0;", "room 0 a0;");
        due("14 a ahead of b", 0, x.painting(0));
        due("14 then b", 1, x.painting(1));
        CoatRows y = rows("alike l a;", "room 0 l0;");
        due("14 a for l", 0, y.painting(0));
        CoatRows z = rows("alike a b;alike a c;", "room 0 b0;", "room 0 c0;", "room 0 b0;");
        due("14 one for two that are not alike", 1, z.painting(-1));
        due("14 its colour", 0, z.painting(0));
        due("15 all three have it", 7, z.had(0));
        CoatRows w = rows("alike b c;", "room 0 c0c0;");
        due("14 each coat by itself", 2, w.painting(-1));
        due("14 the first", 1, w.painting(0));
        due("14 the second", 1, w.painting(1));
        // Fewest counts ahead of first by colours: a ahead of b would be three.
        CoatRows v = rows("", "room 0 b0a0;", "room 0 b0;");
        due("14 the fewest first of all", 2, v.painting(-1));
        due("14 though not the first by colours", 1, v.painting(0));
    }

    // "each CHIP has the first PAINTINGS that could be its COATS, from its first COAT on"
    private static void hadFirstOnes() {
        CoatRows x = rows("", "room 0 a0a0a0a0;", "room 0 a0a0;");
        int[] bits = {3, 3, 1, 1};
        for (int k = 0; k < bits.length; k++) {
            due("15 painting " + k, bits[k], x.had(k));
        }
        due("8 its last coat's", 1, x.coat(1, 1, 2));
        CoatRows y = rows("alike a b;", "room 0 a0;", "room 0 b0a0;");
        due("14 two", 2, y.painting(-1));
        due("15 an alike one is the first that could be", 3, y.had(0));
        due("15 not the later one of just its colour", 2, y.had(1));
    }

    // "MISSED: PAINTINGS from its first to its last that a CHIP has not"
    private static void missedBetween() {
        CoatRows x = rows("", "room 0 a0b0c0d0e0;", "room 0 b0d0;", "room 0 c0;", "room 0 a0e0;");
        int[] missed = {0, 1, 0, 3};
        for (int c = 0; c < missed.length; c++) {
            due("16 missed by " + c, missed[c], x.face(c, 0));
        }
        due("16 the most that can be missed", 30, rows("", FORTY).face(0, 0));
    }

    // "A face that BEGINS with 0 is OLD (0); else SCRAPED (1), with PORES, or NEW (2)."
    private static void faces() {
        CoatRows x = rows("", "room 0 a0b0;", "room 0 pores a0;", "room 0 pores b0;", "room 0 b0;");
        int[] begins = {0, 0, 1, 1};
        int[] faces = {0, 0, 1, 2};
        for (int c = 0; c < faces.length; c++) {
            due("16 begins of " + c, begins[c], x.face(c, 1));
            due("16 face of " + c, faces[c], x.face(c, 2));
        }
        CoatRows y = rows("", FORTY);
        due("16 begins late", 29, y.face(3, 1));
        due("16 new", 2, y.face(3, 2));
        due("16 scraped", 1, y.face(2, 2));
    }

    // "of several the CHIP of a lesser number; its own ROOM, if that is of it, or is as near (NONE: there is no other CHIP)"
    private static void movedOrNot() {
        CoatRows x = rows("", "room 5 a4;");
        due("16 no other chip", NONE, x.face(0, 3));
        Checks.chip(x, "room 0 b0;");
        due("16 the other, as far as it is", 0, x.face(0, 3));
        due("16 and back", 5, x.face(1, 3));
        Checks.chip(x, "room 4 a3;");
        due("16 nearer", 4, x.face(0, 3));
        Checks.chip(x, "room 5 a5;");
        due("16 its own is as near", 5, x.face(0, 3));
        x.drop(3);
        Checks.chip(x, "room 5 a6;");
        due("16 its own is not as near", 4, x.face(0, 3));
        x.drop(3);
        Checks.chip(x, "room 3 a5;");
        due("16 of several the lesser number", 4, x.face(0, 3));
        CoatRows y = rows("", "room 2 a1;", "room 2 a0;", "room 1 a2;", "room 1 a1;");
        due("16 nearer than its own", 1, y.face(0, 3));
        due("16 the only nearest, of another room", 2, y.face(3, 3));
        y.drop(3);
        due("16 its own comes first and is as near", 2, y.face(0, 3));
        due("16 behind a drop", 2, y.face(2, 3));
        x.drop(1);
        x.drop(1);
        x.drop(1);
        due("16 no other chip again", NONE, x.face(0, 3));
    }

    // ---- promises 17 to 20

    // "each PAINTING has a YEAR 0 .. 999"; "in which its COLOUR was sold"
    private static void spanEnds() {
        CoatRows x = rows("", "room 0 a0;");
        due("17 from the first year", 0, x.span(0, 0));
        due("17 to the last", 999, x.span(0, 1));
        due("17 what below", BAD, x.span(0, -1));
        due("17 what beyond", BAD, x.span(0, 2));
        int[][] years = {{0, 0}, {999, 999}, {5, 5}, {0, 999}, {1, 998}};
        for (int[] sold : years) {
            Checks.book(x, "stuff a " + sold[0] + " " + sold[1] + ";");
            due("17 as sold, from", sold[0], x.span(0, 0));
            due("17 as sold, until", sold[1], x.span(0, 1));
        }
        CoatRows y = rows("stuff a 999 999;", "room 0 a0b0;");
        due("17 no year behind the last", NONE, y.span(0, 0));
        due("17 for none of them", NONE, y.span(1, 1));
        Checks.book(y, "stuff b 0 0;");
        due("17 no year ahead of the first", NONE, y.span(0, 1));
        Checks.book(y, "stuff a 998 999;");
        due("17 just one year behind", 999, y.span(1, 0));
        due("17 and one ahead of it", 998, y.span(0, 1));
        Checks.book(y, "stuff b 0 1;");
        due("17 just one year ahead", 0, y.span(0, 1));
        due("17 and one behind it", 1, y.span(1, 0));
        Checks.book(y, "stuff a 7 9;stuff b 7 7;");
        due("17 not in the same year", NONE, y.span(0, 0));
        Checks.book(y, "stuff a 7 9;stuff b 7 8;");
        due("17 but in the next", 8, y.span(1, 0));
        CoatRows z = rows("alike a b;stuff a 3 4;stuff b 5 6;", "room 0 b0;");
        due("17 the painting's colour counts, not the coat's", 3, z.span(0, 0));
        due("17 the painting's colour counts, too", 4, z.span(0, 1));
        CoatRows w = rows("", FORTY);
        w.tune(3, 0);
        due("17 forty years", 39, w.span(39, 0));
        due("17 forty years from the end", 960, w.span(0, 1));
    }

    // "later than the one ahead by WAIT times the most DIRT ..., and 1, at least"
    private static void spanWaits() {
        CoatRows x = rows("stuff b 0 181;", "room 0 a9b9;");
        for (int wait = 0; wait <= 20; wait++) {
            x.tune(3, wait);
            due("17 wait " + wait, 9 * wait + 1, x.span(1, 0));
            due("17 wait from the end", 180 - 9 * wait, x.span(0, 1));
        }
        Checks.book(x, "stuff b 0 180;");
        due("17 a year too little", NONE, x.span(1, 0));
        x.tune(3, 19);
        due("17 waits less", 172, x.span(1, 0));
        // Nine times 1 and 15 times 66 are 999.
        CoatRows y = rows("", "room 0 a8a8a8a7a7a7a7a7a7a9;");
        y.tune(3, 15);
        due("17 just all years", 0, y.span(0, 1));
        due("17 up to the last", 999, y.span(9, 0));
        due("17 and it ends there", 999, y.span(9, 1));
        y.tune(3, 16);
        due("17 more than all years", NONE, y.span(0, 0));
        due("17 more than all years for the last", NONE, y.span(9, 1));
        CoatRows z = rows("", "room 0 a8a8a8a8a7a7a7a7a7a0;");
        z.tune(3, 15);
        due("17 one dirt more than all years", NONE, z.span(9, 0));
        due("18 no day", 0, z.day(0, 999));
        due("20 no bills", 0, z.billed(-1));
    }

    // "the most DIRT that a CHIP which HAS that one has on it there"
    private static void spanOfTheMostDirt() {
        CoatRows x = rows("", "room 0 a1b0;", "room 1 a4;", "room 2 a3;", "room 3 c9;");
        due("14 three", 3, x.painting(-1));
        due("17 the most of three chips", 9, x.span(1, 0));
        x.drop(1);
        due("17 of two", 7, x.span(1, 0));
        x.drop(1);
        due("17 of one, not of those which have it not", 3, x.span(1, 0));
        due("17 the last one's dirt is on nothing", 999, x.span(2, 1));
        CoatRows y = rows("", "room 0 a2a5b0;", "room 0 a7b0;");
        due("17 on the first, where the second chip has it", 15, y.span(1, 0));
        due("17 on the second, where only the first chip has it", 26, y.span(2, 0));
    }

    // "DAY (0 .. 999), as bits; 0, if SPANS can't be"
    private static void dayEnds() {
        CoatRows x = rows("", "room 0 a0;");
        due("18 the first year", 1025, x.day(0, 0));
        due("18 the last year but one", 1025, x.day(0, 998));
        due("18 in the last year it must be there", 1, x.day(0, 999));
        due("18 ahead of the first year", BAD, x.day(0, -1));
        due("18 behind the last year", BAD, x.day(0, 1000));
        due("18 no chip", BAD, x.day(1, 0));
        Checks.book(x, "stuff a 10 20;");
        int[][] days = {{0, 1024}, {9, 1024}, {10, 1025}, {19, 1025}, {20, 1}, {21, 1}, {999, 1}};
        for (int[] day : days) {
            due("18 on day " + day[0], day[1], x.day(0, day[0]));
        }
        CoatRows y = rows("stuff a 10 20;stuff b 15 16;stuff c 30 40;", "room 0 a0c0;", "room 1 b0;");
        int[][] moreDays = {{9, 1024}, {10, 1025}, {14, 1025}, {15, 1}, {29, 1}, {30, 3}, {39, 3}, {40, 2}};
        for (int[] day : moreDays) {
            due("18 with another's between, on day " + day[0], day[1], y.day(0, day[0]));
        }
        due("18 the other's, not yet", 1024, y.day(1, 14));
        due("18 the other's, perhaps", 1025, y.day(1, 15));
        due("18 the other's, surely", 1, y.day(1, 16));
        Checks.book(y, "stuff a 10 20;stuff c 0 10;");
        due("18 spans can't be", 0, y.day(0, 999));
        due("18 spans can't be, of the other, too", 0, y.day(1, 0));
        due("18 not as told, even so", BAD, y.day(1, 1000));
        due("18 no chip, even so", BAD, y.day(2, 0));
    }

    private static void dayOfTenCoats() {
        CoatRows x = rows("", "room 0 a0a0a0a0a0a0a0a0a0a0;");
        due("18 the first year", 1024 | 1, x.day(0, 0));
        due("18 the second year", 1024 | 3, x.day(0, 1));
        due("18 all can be", 2047, x.day(0, 9));
        due("18 all can still be", 2047, x.day(0, 989));
        due("18 one must be there", 1023, x.day(0, 990));
        due("18 all but the last", 512 | 256, x.day(0, 998));
        due("18 the last", 512, x.day(0, 999));
        CoatRows y = rows("", "room 0 a8a8a8a7a7a7a7a7a7a9;");
        y.tune(3, 15);
        due("18 just the first", 1, y.day(0, 0));
        due("18 until the second comes", 1, y.day(0, 120));
        due("18 just the second", 2, y.day(0, 121));
        due("18 just the ninth", 256, y.day(0, 998));
        due("18 just the tenth", 512, y.day(0, 999));
    }

    // "a PAINTING of just its COLOUR in its span"
    private static void billsInSpans() {
        CoatRows x = rows("", "room 0 a0;");
        int[][] years = {{9, 0}, {10, 1}, {20, 1}, {21, 0}};
        for (int[] year : years) {
            Checks.book(x, "stuff a 10 20;bill " + year[0] + " a;");
            due("20 in year " + year[0], year[1], x.billed(-1));
            due("20 of the painting in year " + year[0], year[1], x.billed(0));
        }
        Checks.book(x, "bill 0 a;");
        due("20 the first year", 1, x.billed(-1));
        Checks.book(x, "bill 999 a;");
        due("20 the last year", 1, x.billed(-1));
        due("20 no second painting", BAD, x.billed(1));
        due("20 below how many", BAD, x.billed(-2));
        Checks.book(x, "");
        due("20 no bills", 0, x.billed(-1));
        due("20 none for the painting", 0, x.billed(0));
        Checks.book(x, "alike a b;bill 5 b;");
        due("20 alike is not just its colour", 0, x.billed(-1));
        CoatRows y = rows("alike a b;bill 5 b;bill 6 a;", "room 0 b0;");
        due("20 the painting's colour, not the coat's", 2, y.billed(0));
        // Each span by itself: a in 5 keeps b from 5 .. 9, yet a bill of b in 6 stands.
        CoatRows z = rows("bill 5 a;bill 6 b;", "room 0 a2b0;");
        due("20 the spans as they are", 2, z.billed(-1));
        Checks.book(z, "bill 0 a;bill 4 b;");
        due("20 ahead of its span", 1, z.billed(-1));
        Checks.book(z, "bill 0 a;bill 5 b;");
        due("20 at the first year of its span", 2, z.billed(-1));
        Checks.book(z, "bill 995 a;bill 999 b;");
        due("20 behind its span", 1, z.billed(-1));
        Checks.book(z, "bill 994 a;bill 999 b;");
        due("20 at the last year of its span", 2, z.billed(-1));
    }

    // "each PAINTING for one at most, later YEARS for later PAINTINGS (the same YEAR never for two)"; "that is least"
    private static void billsOneEach() {
        billedRow("one for a painting", rows("bill 5 a;bill 6 a;", "room 0 a0;"), 1, 1);
        billedRow("a bill for one painting", rows("bill 5 a;", "room 0 a0a0a0;"), 1, 0, 0, 1);
        billedRow("the same year", rows("bill 5 a;bill 5 a;", "room 0 a0a0;"), 1, 0, 1);
        billedRow("a year later", rows("bill 5 a;bill 6 a;", "room 0 a0a0;"), 2, 1, 2);
        billedRow("later years for later ones", rows("bill 6 a;bill 5 a;", "room 0 a0a0;"), 2, 2, 1);
        billedRow("no earlier year for a later one", rows("bill 6 a;bill 5 b;", "room 0 a0b0;"), 1, 0, 2);
        billedRow("the same year of two colours", rows("bill 6 a;bill 6 b;", "room 0 a0b0;"), 1, 0, 2);
        billedRow("later across one without", rows("bill 3 c;bill 5 a;bill 9 c;", "room 0 a0b0c0;"), 2, 2, 0, 3);
        billedRow("the least row", rows("bill 7 a;bill 5 a;bill 6 a;", "room 0 a0a0;"), 2, 2, 1);
        billedRow("the most ahead of the least row", rows("bill 7 a;bill 8 b;", "room 0 a0b0;"), 2, 1, 2);
        billedRow("eight for ten", rows("bill 1 a;bill 2 a;bill 3 a;bill 4 a;bill 5 a;bill 6 a;bill 7 a;bill 9 a;",
            "room 0 a0a0a0a0a0a0a0a0a0a0;"), 8, 0, 1, 2, 3, 4, 5, 6, 7, 0, 8);
    }

    private static void billsOfForty() {
        CoatRows x = rows("bill 0 a;bill 8 a;bill 9 b;bill 18 b;bill 19 c;bill 29 d;bill 38 d;bill 39 l;", FORTY);
        x.tune(3, 0);
        due("20 eight for forty", 8, x.billed(-1));
        int[][] dues = {{0, 1}, {1, 0}, {8, 2}, {9, 3}, {18, 4}, {19, 5}, {20, 0}, {29, 6}, {38, 7}, {39, 8}};
        for (int[] due : dues) {
            due("20 of forty, painting " + due[0], due[1], x.billed(due[0]));
        }
        due("20 behind forty", BAD, x.billed(40));
        x.drop(0);
        x.drop(0);
        x.drop(0);
        billedRow("of ten behind forty", x, 2, 0, 0, 0, 0, 0, 0, 0, 0, 6, 7);
        Checks.chip(x, "room 0 d0;");
        x.drop(0);
        billedRow("of one behind ten", x, 1, 6);
        x.drop(0);
        billedRow("of none behind one", x, 0);
    }

    private static void billedRow(String what, CoatRows x, int many, int... row) {
        due("20 " + what + ": how many", many, x.billed(-1));
        for (int k = 0; k < row.length; k++) {
            due("20 " + what + ": painting " + k, row[k], x.billed(k));
        }
        due("20 " + what + ": behind the last", BAD, x.billed(row.length));
    }

    // ---- promises 21 and 22

    private static void enoughBounds() {
        CoatRows x = new CoatRows();
        due("21 one coat", 1, x.enough(1, 0));
        due("21 ten coats", 1, x.enough(10, 0));
        due("21 no coat", BAD, x.enough(0, 0));
        due("21 eleven coats", BAD, x.enough(11, 0));
        due("21 odds below", BAD, x.enough(1, -1));
        due("21 odds beyond", BAD, x.enough(1, 101));
        due("21 the most odds", NONE, x.enough(1, 100));
        x.tune(4, 0);
        due("21 nothing lacks", 1, x.enough(10, 100));
        x.tune(4, 1);
        // By nine chips 999999.999, rounded down: never all.
        due("21 rounded down", NONE, x.enough(1, 100));
        due("21 just ninety", 1, x.enough(1, 90));
        due("21 more than ninety", 2, x.enough(1, 91));
        due("21 just ninety-nine", 2, x.enough(1, 99));
        due("21 two coats, just eighty-one", 1, x.enough(2, 81));
        due("21 two coats, more than that", 2, x.enough(2, 82));
        x.tune(4, 5);
        due("21 just half", 1, x.enough(1, 50));
        due("21 just a quarter", 1, x.enough(2, 25));
        due("21 just three quarters", 2, x.enough(1, 75));
        due("21 more than three quarters", 3, x.enough(1, 76));
        due("21 by nine", 9, x.enough(10, 98));
        due("21 not by nine", NONE, x.enough(10, 99));
        x.tune(4, 9);
        // By nine chips 612579.
        due("21 by nine, one coat", 9, x.enough(1, 61));
        due("21 not by nine, one coat", NONE, x.enough(1, 62));
        due("21 not ten coats", NONE, x.enough(10, 1));
        due("21 just a tenth", 1, x.enough(1, 10));
        due("21 not as told ahead of none", BAD, x.enough(11, 100));
    }

    // "of which the most PAINTINGS (0 well) are in none of its CHIPS, of several the least; NONE: no CHIPS"
    private static void nextRoom() {
        CoatRows x = rows("", "room 5 a0;");
        due("22 none unseen", 5, x.next());
        Checks.chip(x, "room 3 a0;");
        due("22 of several the least", 3, x.next());
        Checks.chip(x, "room 4 a0b0;");
        due("22 of two with one unseen the least", 3, x.next());
        Checks.chip(x, "room 3 b0;");
        due("22 both its chips together", 5, x.next());
        while (x.count(0) > 0) {
            x.drop(0);
        }
        due("22 no chips", NONE, x.next());
        due("22 the first painting counts", 1, rows("", "room 0 a0b0;", "room 1 b0;").next());
        due("22 the last painting counts", 1, rows("", "room 0 a0b0;", "room 1 a0;").next());
        CoatRows y = rows("", "room 0 a0b0c0;", "room 1 a0;");
        due("22 with three paintings", 1, y.next());
        y.drop(0);
        Checks.chip(y, "room 0 a0b0;");
        due("22 with two then", 1, y.next());
        due("22 room 0", 0, rows("", "room 0 a0;", "room 1 a0;").next());
        due("22 the most unseen", 0, rows("", FORTY[1], "room 0 a0;", "room 5 c0c0;").next());
    }

    // ---- promises 23 to 27

    private static void rankBounds() {
        CoatRows x = rows("", "room 0 pores a0l9;", "room 1 l0;", "room 2 l5;", "room 3 l9;");
        int[] first = {1, 1, 1, 1, 2, 21};
        int[] last = {12, 48, 21, 47, 42, 32};
        for (int kind = 0; kind < 6; kind++) {
            due("23 the first coat as " + kind, first[kind], x.rank(kind, 0, 0));
            due("23 the last coat as " + kind, last[kind], x.rank(kind, 0, 1));
            due("23 no coat as " + kind, NO, x.rank(kind, 0, 2));
            due("23 coat -1 as " + kind, NO, x.rank(kind, 0, -1));
            due("23 no chip as " + kind, NO, x.rank(kind, 4, 0));
            due("23 chip -1 as " + kind, NO, x.rank(kind, -1, 0));
        }
        due("23 kind -1", NO, x.rank(-1, 0, 0));
        due("23 kind 6", NO, x.rank(6, 0, 0));
        due("23 no pores", 12, x.rank(5, 1, 0));
        CoatRows y = rows("", "room 0 a0a0a0a0a0a0a0a0a0a0;");
        due("23 just 0", 0, y.rank(3, 0, 1));
        due("23 the least that it can be", -8, y.rank(3, 0, 9));
        CoatRows z = rows("alike a l;", "room 0 l0;", "room 0 a0;");
        due("23 its own colour, not its painting's", 12, z.rank(0, 0, 0));
        due("23 the chips that have its painting", 24, z.rank(1, 0, 0));
        z.tune(2, 1);
        due("23 under the lamp", 12, z.rank(1, 0, 0));
    }

    // "IMAGES 0, 1 keep CHIPS; nothing else"
    private static void imagesKeepChips() {
        for (int image = 0; image < 2; image++) {
            CoatRows x = new CoatRows();
            due("25 none was kept", STATE, x.back(image));
            due("24 no chips", 0, x.keep(image));
            due("25 the other was not kept", STATE, x.back(1 - image));
            due("25 no chips, but kept", 0, x.back(image));
            Checks.chip(x, "room 1 pores a1b2;");
            due("24 one", 1, x.keep(image));
            Checks.chip(x, "room 2 c3;");
            Checks.chip(x, "room 3 d4;");
            Checks.chip(x, "room 4 e5;");
            due("24 four", 4, x.keep(1 - image));
            due("24 they stay", 4, x.count(0));
            due("25 one", 1, x.back(image));
            due("25 no second", BAD, x.about(1, 0));
            due("25 its pores", 1, x.about(0, 1));
            due("25 its last coat", 2, x.coat(0, 1, 1));
            due("24 the later one counts", 1, x.keep(1 - image));
            due("25 not the four", 1, x.back(1 - image));
            x.drop(0);
            Checks.chip(x, "room 5 f6;");
            due("25 not what came behind it", 1, x.back(image));
            due("25 but what was kept", 1, x.about(0, 0));
            x.drop(0);
            due("25 as often as may be", 1, x.back(image));
            due("25 its room", 1, x.about(0, 0));
            wholeChipsComeBack(x, image);
            for (int bad : new int[] {LOW, -1, 2, HIGH}) {
                due("24 image " + bad, BAD, x.keep(bad));
                due("25 image " + bad, BAD, x.back(bad));
            }
        }
        nothingElse();
    }

    /** One chip was kept; others lie in its place meanwhile, that differ from it in all they have. */
    private static void wholeChipsComeBack(CoatRows x, int image) {
        String[] others = {"room 4 k8;", "room 3 pores l7l6l5;", "room 2 j0i0h0g0f0e0d0c0b0a0;"};
        int[] coats = {1, 3, 10};
        for (int i = 0; i < others.length; i++) {
            x.drop(0);
            Checks.chip(x, others[i]);
            due("24 another", 1, x.keep(1 - image));
            due("25 the one", 1, x.back(image));
            due("25 its room", 1, x.about(0, 0));
            due("25 its pores", 1, x.about(0, 1));
            due("25 its coats", 2, x.about(0, 2));
            for (int k = 0; k < 2; k++) {
                due("25 its colours", k, x.coat(0, k, 0));
                due("25 its dirt", k + 1, x.coat(0, k, 1));
            }
            due("25 the other one", 1, x.back(1 - image));
            due("25 the other one's room", 4 - i, x.about(0, 0));
            due("25 the other one's pores", i == 1 ? 1 : 0, x.about(0, 1));
            due("25 the other one's coats", coats[i], x.about(0, 2));
            due("25 the other one's last colour", new int[] {10, 11, 0}[i], x.coat(0, coats[i] - 1, 0));
            due("25 the other one's last dirt", new int[] {8, 5, 0}[i], x.coat(0, coats[i] - 1, 1));
        }
    }

    private static void nothingElse() {
        CoatRows x = rows("bill 5 a;", "room 1 a1;");
        x.keep(0);
        Checks.book(x, "bill 6 b;bill 7 b;alike a b;stuff a 1 2;");
        x.tune(0, 3);
        x.rank(0, 0, 0);
        Checks.write(x, "room 2 c");
        x.back(0);
        due("25 not the bills", 2, x.count(2));
        due("25 not what is alike", 2, x.colour(0, 2));
        due("25 not the years", 1, x.colour(0, 0));
        due("25 not the tunes", 3, x.tune(0, 3));
        due("25 not the trace", 1, x.trace());
        due("25 not the text", 8, x.count(3));
        Checks.write(x, "3;");
        due("25 the text as it was", 1, x.chip());
        due("25 with its dirt", 3, x.coat(1, 0, 1));
        CoatRows y = rows("", FORTY);
        y.keep(1);
        y.drop(0);
        due("14 thirty", 30, y.painting(-1));
        due("25 four of ten coats", 4, y.back(1));
        due("26 their coats", 40, y.count(1));
        due("14 forty again", 40, y.painting(-1));
        due("4 no fifth", FULL, y.chip());
    }

    private static void counts() {
        CoatRows x = rows("bill 0 a;".repeat(8), FORTY);
        Checks.write(x, ";".repeat(400));
        int[] most = {4, 40, 8, 400};
        for (int what = 0; what < most.length; what++) {
            due("26 the most of " + what, most[what], x.count(what));
        }
        for (int what : new int[] {LOW, -1, 4, HIGH}) {
            due("26 " + what, BAD, x.count(what));
        }
        x.drop(3);
        due("26 chips", 3, x.count(0));
        due("26 coats", 30, x.count(1));
    }

    // "THE TRACE (0 at first; of all calls ever, together)"
    private static void traceOfAll() {
        CoatRows x = rows("", "room 0 a1;");
        due("27 at first", 0, x.trace());
        long[] more = {1, 11, 101, 1011, 10101, 100001};
        long all = 0;
        for (int kind = 0; kind < 6; kind++) {
            x.rank(kind, 0, 0);
            all += more[kind];
            due("27 kind " + kind, all, x.trace());
            x.rank(kind, 0, 1);
            x.rank(kind, 1, 0);
            due("27 a refused call asks nothing", all, x.trace());
        }
        x.keep(0);
        x.drop(0);
        x.back(0);
        x.clear();
        x.book();
        x.rank(6, 0, 0);
        x.rank(-1, 0, 0);
        due("27 of all calls ever", all, x.trace());
    }
}
