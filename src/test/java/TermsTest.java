/** The boundaries that the document's 'Terms' name for texts: each sentence by itself, on both sides of each bound. */
public final class TermsTest {
    private static final int BAD = -1, FULL = -3;
    private static final Checks CHECKS = new Checks();

    public static void main(String[] args) {
        chipsFourAtMost();
        roomsZeroToFive();
        poresOrNot();
        coatsOneToTen();
        coloursAToL();
        dirtZeroToNine();
        fourHundredBytes();
        blanksAreThirtyTwo();
        blanksWhereNeeded();
        nothingBehindTheEnd();
        itemsNoneToo();
        stuffYears();
        stuffToldAgain();
        oneBookAtATime();
        alikeTwoColours();
        billsEightAtMost();
        words();
        numbers();
        endsTooEarly();
        firstFaultCounts();
        eachTokenInEachPlace();
        tunes();
        same();
        CHECKS.end("TermsTest");
    }

    private static void due(String what, long want, long got) {
        CHECKS.due(what, want, got);
    }

    /** A fault at a place, and that nothing came of the text; a text that is too long to type is a fault of the test. */
    private static void chipFault(String text, int place) {
        CoatRows x = new CoatRows();
        due("chip of '" + text + "'", -10 - place, Checks.chip(x, text));
        due("chips of '" + text + "'", 0, x.count(0));
        due("bytes of '" + text + "'", text.length(), x.count(3));
    }

    private static void bookFault(String text, int place) {
        CoatRows x = Checks.rows("stuff a 5 6;bill 7 c;");
        due("book of '" + text + "'", -10 - place, Checks.book(x, text));
        due("old bills behind '" + text + "'", 1, x.count(2));
        due("old years behind '" + text + "'", 5, x.colour(0, 0));
        due("bytes of '" + text + "'", text.length(), x.count(3));
    }

    private static CoatRows chipStands(String text) {
        CoatRows x = new CoatRows();
        due("chip of '" + text + "'", 0, Checks.chip(x, text));
        due("no bytes behind '" + text + "'", 0, x.count(3));
        return x;
    }

    private static CoatRows bookStands(String text, int items) {
        CoatRows x = new CoatRows();
        due("book of '" + text + "'", items, Checks.book(x, text));
        due("no bytes behind '" + text + "'", 0, x.count(3));
        return x;
    }

    // "CHIPS 0 .. (4 at most, as they come)"
    private static void chipsFourAtMost() {
        CoatRows x = new CoatRows();
        for (int c = 0; c < 4; c++) {
            due("chip " + c + " as it comes", c, Checks.chip(x, "room " + (5 - c) + "a0;"));
            due("its room", 5 - c, x.about(c, 0));
            due("none behind it", BAD, x.about(c + 1, 0));
        }
        due("a fifth", FULL, Checks.chip(x, "room 0 a0;"));
        due("four", 4, x.count(0));
        due("its text stays", 10, x.count(3));
        due("one falls apart", 3, x.drop(0));
        due("then its text becomes a chip", 3, x.chip());
        due("as the last", 0, x.about(3, 0));
    }

    // "of a ROOM 0 .. 5"
    private static void roomsZeroToFive() {
        for (int room = 0; room <= 5; room++) {
            due("room " + room, room, chipStands("room " + room + " a0;").about(0, 0));
        }
        for (String room : new String[] {"6", "7", "8", "9", "10", "50", "256", "999", "1000", "00", "05", "-1", "-0"}) {
            chipFault("room " + room + " a0;", 5);
        }
    }

    // "have PORES or not"; "then perhaps pores"
    private static void poresOrNot() {
        due("pores", 1, chipStands("room 0 pores a0;").about(0, 1));
        due("no pores", 0, chipStands("room 0 a0;").about(0, 1));
        chipFault("room 0 pores pores a0;", 13);
        chipFault("room pores 0 a0;", 5);
        chipFault("pores room 0 a0;", 0);
        chipFault("room 0 a0 pores;", 10);
        chipFault("room 0 a pores 0;", 9);
        chipFault("room 0 a0; pores", 11);
        CoatRows x = Checks.rows("", "room 0 pores a0;", "room 0 a0;");
        due("the chip behind one with pores", 0, x.about(1, 1));
    }

    // "and COATS, 1 .. 10"; "an eleventh COAT"
    private static void coatsOneToTen() {
        chipFault("room 0;", 6);
        chipFault("room 0 ;", 7);
        chipFault("room 0 pores;", 12);
        for (int coats = 1; coats <= 10; coats++) {
            CoatRows x = chipStands("room 0" + " c7".repeat(coats) + ";");
            due("coats", coats, x.about(0, 2));
            due("the last one's dirt", 7, x.coat(0, coats - 1, 1));
            due("none behind it", BAD, x.coat(0, coats, 1));
        }
        chipFault("room 0" + " c7".repeat(11) + ";", 37);
        chipFault("room 0" + " c7".repeat(10) + "c", 36);
        chipFault("room 0" + " c7".repeat(10) + "  l7;", 38);
        chipFault("room 0" + " c7".repeat(100) + ";", 37);
    }

    // "each has a COLOUR a .. l (0 .. 11)"
    private static void coloursAToL() {
        for (int l = 0; l < 12; l++) {
            due("colour " + l, l, chipStands("room 0 " + (char) ('a' + l) + "0;").coat(0, 0, 0));
        }
        for (char sign = 'm'; sign <= 'z'; sign++) {
            chipFault("room 0 " + sign + "0;", 7);
            bookFault("stuff " + sign + " 0 1;", 6);
            bookFault("alike " + sign + " a;", 6);
            bookFault("alike a " + sign + ";", 8);
            bookFault("bill 0 " + sign + ";", 7);
        }
        for (char sign : new char[] {'`', '{', 'A', 'L', '@', 0xe1, 0xec}) {
            chipFault("room 0 " + sign + "0;", 7);
            bookFault("stuff " + sign + " 0 1;", 6);
        }
        chipFault("room 0 aa0;", 7);
    }

    // "and DIRT on it (0 .. 9)"; "each a COLOUR and a NUMBER (0 .. 9)"
    private static void dirtZeroToNine() {
        for (int dirt = 0; dirt <= 9; dirt++) {
            due("dirt " + dirt, dirt, chipStands("room 0 l" + dirt + ";").coat(0, 0, 1));
        }
        for (String dirt : new String[] {"10", "11", "99", "999", "1000", "00", "09", "256", "4294967296", "-1", ""}) {
            chipFault("room 0 l" + dirt + ";", 8);
        }
    }

    // "(400 bytes at most for either, in THE TEXT)"
    private static void fourHundredBytes() {
        due("a chip of 400 bytes", 9, chipStands("room 4" + " ".repeat(391) + "l9;").coat(0, 0, 1));
        CoatRows x = bookStands("bill 1 a;stuff l" + " ".repeat(376) + "998 999;", 2);
        due("a book of 400 bytes", 998, x.colour(11, 0));
        due("its last number", 999, x.colour(11, 1));
        CoatRows y = new CoatRows();
        due("400 bytes", 400, Checks.write(y, "room 4 a0" + " ".repeat(390) + ";"));
        due("no more", FULL, y.type(' ', 1));
        due("a chip of all of them", 0, y.chip());
        due("then there is room again", 1, y.type(' ', 1));
        CoatRows z = new CoatRows();
        due("399 bytes", 399, Checks.write(z, "stuff a 1 2" + " ".repeat(388)));
        due("two more", FULL, z.type(';' << 8 | ' ', 2));
        due("one more", 400, z.type(';', 1));
        due("a book of all of them", 1, z.book());
        due("then there is room again", 8, z.type(0, 8));
        chipFault("room 4 a0" + " ".repeat(391), 400);
        chipFault("room 4 a0;" + " ".repeat(389) + ";", 399);
        bookFault("stuff a 1 2;" + " ".repeat(384) + "bill", 400);
        bookFault("stuff a 1 2;" + " ".repeat(387) + "5", 399);
        chipFault(";".repeat(400), 0);
        bookFault(";".repeat(400), 0);
        chipFault("0a".repeat(200), 0);
        bookFault("?".repeat(400), 0);
    }

    // "blanks (32) ahead of, between and behind TOKENS as may be"; "of a byte that begins none"
    private static void blanksAreThirtyTwo() {
        for (int sign = 0; sign < 256; sign++) {
            String s = "" + (char) sign;
            boolean letter = sign >= 'a' && sign <= 'z';
            if (sign == ' ') {
                chipStands(s + "room 0 a0;");
                chipStands("room" + s + "0 a0;");
                chipStands("room 0 a0;" + s);
                bookStands(s + "bill 5 a;", 1);
                bookStands("bill 5 a;" + s, 1);
                continue;
            }
            chipFault(s + "room 0 a0;", 0);
            chipFault("room" + s + "0 a0;", letter ? 0 : 4);
            chipFault("room 0 a0;" + s, 10);
            bookFault(s + "bill 5 a;", 0);
            bookFault("bill 5 a;" + s, 9);
        }
        chipStands("   room   5   pores   l   9   a   0   ;   ");
        bookStands("   stuff   a   5   6   ;   alike   a   b   ;   bill   7   c   ;   ", 3);
    }

    // "(none needed where TOKENS end without)"
    private static void blanksWhereNeeded() {
        chipStands("room5pores l9a0l9;");
        chipFault("room5poresl9a0l9;", 5);
        chipFault("roompores", 0);
        bookStands("stuff a5 6;alike a b;bill7c;", 3);
        bookFault("stuffa 5 6;", 0);
        bookFault("stuff a56;", 9);
        bookFault("alikea b;", 0);
        bookFault("alike ab;", 6);
        bookFault("billa 7;", 0);
        due("numbers that run together are one", 56, bookStands("stuff a56 57;", 1).colour(0, 0));
    }

    // "and ; at last, nothing behind it"
    private static void nothingBehindTheEnd() {
        chipFault("room 0 a0", 9);
        chipFault("room 0 a0  ", 11);
        for (String more : new String[] {";", "a0;", "room 0 a0;", "0", "x", "?", "pores"}) {
            chipFault("room 0 a0;" + more, 10);
            chipFault("room 0 a0;  " + more, 12);
        }
    }

    // "THE BOOK: ITEMS (none, too), each ended by ;"
    private static void itemsNoneToo() {
        bookStands("", 0);
        bookStands("     ", 0);
        CoatRows x = Checks.rows("stuff a 5 6;alike a b;bill 7 c;");
        due("a book of nothing", 0, x.book());
        due("no bills", 0, x.count(2));
        due("years as at first", 0, x.colour(0, 0));
        due("until the last", 999, x.colour(0, 1));
        due("none alike", 0, x.colour(0, 2));
        bookFault(";", 0);
        bookFault("bill 7 c;;", 9);
        bookFault("bill 7 c", 8);
        bookFault("bill 7 c bill 7 c;", 9);
        bookFault("stuff a 5 6 stuff", 12);
        bookFault("alike a b alike", 10);
        bookFault("room 0 a0;", 0);
        due("one item", 1, bookStands("alike a b;", 1).colour(0, 2) >> 1);
        bookStands("alike a b;".repeat(40), 40);
    }

    // "YEARS Y .. Z, 0 .. 999 each, Z no less than Y"
    private static void stuffYears() {
        int[][] spans = {{0, 0}, {0, 999}, {999, 999}, {998, 999}, {500, 500}, {9, 10}, {99, 100}};
        for (int[] span : spans) {
            CoatRows x = bookStands("stuff l " + span[0] + " " + span[1] + ";", 1);
            due("from", span[0], x.colour(11, 0));
            due("until", span[1], x.colour(11, 1));
        }
        bookFault("stuff l 1 0;", 10);
        bookFault("stuff l 999 998;", 12);
        bookFault("stuff l 500 499;", 12);
        bookFault("stuff l 10 9;", 11);
        bookFault("stuff l 100 20;", 12);
        bookFault("stuff l 1000 1000;", 8);
        bookFault("stuff l 999 1000;", 12);
        bookFault("stuff l 0 1000;", 10);
        bookFault("stuff l -1 5;", 8);
        bookFault("stuff l 5;", 9);
        bookFault("stuff l;", 7);
        bookFault("stuff 5 6;", 6);
        bookFault("stuff l 5 6 7;", 12);
    }

    // "else 0 .. 999; told again, what is told later counts"
    private static void stuffToldAgain() {
        CoatRows x = bookStands("stuff b 5 6;stuff c 1 2;stuff b 0 999;stuff c 500 600;stuff c 7 7;", 5);
        due("b from", 0, x.colour(1, 0));
        due("b until", 999, x.colour(1, 1));
        due("c from", 7, x.colour(2, 0));
        due("c until", 7, x.colour(2, 1));
        for (int l = 0; l < 12; l++) {
            if (l != 1 && l != 2) {
                due("else from 0", 0, x.colour(l, 0));
                due("else until 999", 999, x.colour(l, 1));
            }
        }
        due("another book", 1, Checks.book(x, "stuff a 3 4;"));
        due("of what is told nowhere, from", 0, x.colour(2, 0));
        due("of what is told nowhere, until", 999, x.colour(2, 1));
    }

    // "THE TEXT becomes THE BOOK": of the book ahead of it nothing stays
    private static void oneBookAtATime() {
        CoatRows x = new CoatRows();
        for (int round = 0; round < 3; round++) {
            due("three items", 3, Checks.book(x, "stuff c 5 6;alike c d;bill 7 c;"));
            due("years", 5, x.colour(2, 0));
            due("alike", 8, x.colour(2, 2));
            due("a bill", 1, x.count(2));
            due("four items", 4, Checks.book(x, "stuff e 8 9;alike e d;bill 1 a;bill 2 b;"));
            due("no years", 0, x.colour(2, 0));
            due("no years, until", 999, x.colour(2, 1));
            due("alike no more", 0, x.colour(2, 2));
            due("alike to another", 16, x.colour(3, 2));
            due("two bills", 2, x.count(2));
            due("the first one's year", 1, x.bill(0, 0));
            due("one item", 1, Checks.book(x, "alike a b;"));
            due("alike to another no more", 0, x.colour(3, 2));
            due("no bill", BAD, x.bill(0, 0));
        }
    }

    // "alike L M (two COLOURS, not the same: alike to an eye, both ways; not further)"
    private static void alikeTwoColours() {
        for (int l = 0; l < 12; l++) {
            String sign = "" + (char) ('a' + l);
            bookFault("alike " + sign + " " + sign + ";", 8);
            int m = (l + 1) % 12;
            CoatRows x = bookStands("alike " + sign + " " + (char) ('a' + m) + ";", 1);
            for (int other = 0; other < 12; other++) {
                due("alike to " + other, other == l ? 1 << m : other == m ? 1 << l : 0, x.colour(other, 2));
            }
        }
        CoatRows x = bookStands("alike a b;alike b c;alike b a;alike c d;", 4);
        int[] bits = {2, 5, 10, 4};
        for (int l = 0; l < bits.length; l++) {
            due("not further, and not oneself", bits[l], x.colour(l, 2));
        }
        CoatRows y = bookStands("alike a b;alike a c;alike a d;alike a e;alike a f;alike a g;alike a h;alike a i;alike a j;"
            + "alike a k;alike a l;", 11);
        due("alike to all others", 4094, y.colour(0, 2));
        due("those not to one another", 1, y.colour(11, 2));
        CoatRows z = bookStands("alike a l;alike b l;alike l k;alike c a;", 4);
        due("alike to several, told behind", 1027, z.colour(11, 2));
        due("alike to several, told ahead", 2052, z.colour(0, 2));
        bookFault("alike a 5;", 8);
        bookFault("alike a;", 7);
        bookFault("alike;", 5);
        bookFault("alike a b c;", 10);
    }

    // "bill Y L (BILLS 0 .., 8 at most)"; "a ninth bill"
    private static void billsEightAtMost() {
        StringBuilder text = new StringBuilder();
        for (int b = 0; b < 8; b++) {
            text.append("bill " + (999 - b) + " " + (char) ('l' - b) + ";");
            CoatRows x = bookStands(text.toString(), b + 1);
            due("how many", b + 1, x.count(2));
            due("the last one's year", 999 - b, x.bill(b, 0));
            due("the last one's colour", 11 - b, x.bill(b, 1));
            due("the first one's year", 999, x.bill(0, 0));
            due("none behind it", BAD, x.bill(b + 1, 0));
        }
        int full = text.length();
        bookFault(text + "bill 0 a;", full);
        bookFault(text + "   bill", full + 3);
        bookFault(text + "stuff a 1 2;alike a b;bill 0 a;", full + 22);
        bookFault(text + "bills", full);
        due("other items behind eight", 10, bookStands(text + "stuff a 1 2;alike a b;", 10).count(2) + 2);
        due("year 0", 0, bookStands("bill 0 a;", 1).bill(0, 0));
        due("year 999", 999, bookStands("bill 999 a;", 1).bill(0, 0));
        bookFault("bill 1000 a;", 5);
        bookFault("bill a 5;", 5);
        bookFault("bill 5;", 6);
        bookFault("bill;", 4);
        bookFault("bill 5 a 5;", 9);
    }

    // "words of letters a .. z (room, pores, stuff, alike, bill; or one letter a .. l)"; "a word that is none of these"
    private static void words() {
        for (String word : new String[] {"roo", "rooms", "rooma", "aroom", "rooom", "oom", "r", "moor", "Room", "ROOM"}) {
            chipFault(word + " 0 a0;", 0);
        }
        for (String word : new String[] {"pore", "poress", "spores", "serop", "porez", "qores", "pords"}) {
            chipFault("room 0 " + word + " a0;", 7);
        }
        chipFault("room 0 Pores a0;", 7);
        chipFault("room 0 pOres a0;", 7);
        for (String word : new String[] {"stuf", "stuffs", "stufg", "ttuff", "stoff", "s"}) {
            bookFault(word + " a 1 2;", 0);
        }
        for (String word : new String[] {"alik", "alikes", "alikf", "blike", "aloke", "like"}) {
            bookFault(word + " a b;", 0);
        }
        for (String word : new String[] {"bil", "bills", "bilk", "cill", "bell", "ill"}) {
            bookFault(word + " 5 a;", 0);
        }
        for (String word : new String[] {"a", "l", "pores", "room", "5", ";"}) {
            bookFault(word, 0);
        }
        bookFault("z".repeat(400), 0);
        chipFault("a".repeat(400), 0);
    }

    // "a NUMBER above 999 or with a 0 ahead of others"; "a NUMBER beyond what it may be"
    private static void numbers() {
        for (String number : new String[] {"1000", "1001", "9990", "9999", "65536", "65541", "4294967296", "4294967301",
            "18446744073709551616", "18446744073709551621", "00", "01", "000", "0000", "0005", "010", "9".repeat(380)}) {
            chipFault("room " + number + " a0;", 5);
            chipFault("room 0 a" + number + ";", 8);
            bookFault("stuff a " + number + " 999;", 8);
            bookFault("stuff a 0 " + number + ";", 10);
            bookFault("bill " + number + " a;", 5);
        }
        due("0 alone", 0, bookStands("stuff a 0 0;", 1).colour(0, 1));
        due("999", 999, bookStands("stuff a 999 999;", 1).colour(0, 0));
        due("0 behind others", 100, bookStands("stuff a 100 200;", 1).colour(0, 0));
        chipFault("room 999 a0;", 5);
        chipFault("room 0 a999;", 8);
    }

    // "the text's length, if it ends too early"
    private static void endsTooEarly() {
        String chip = "room 3 pores a1 l9;";
        int[] chipFaults = {0, 0, 0, 0, 4, 5, 6, 7, 7, 7, 7, 7, 12, 13, 14, 15, 16, 17, 18};
        for (int length = 0; length < chip.length(); length++) {
            chipFault(chip.substring(0, length), chipFaults[length]);
        }
        chipStands(chip);
        String book = "stuff a 10 20;alike b c;bill 5 d;";
        int[] bookFaults = {-1, 0, 0, 0, 0, 5, 6, 7, 8, 9, 10, 11, 11, 13, -1, 14, 14, 14, 14, 19, 20, 21, 22, 23, -1,
            24, 24, 24, 28, 29, 30, 31, 32};
        // A 2 that ends there is a number that is less than 10.
        for (int length = 0; length < book.length(); length++) {
            if (bookFaults[length] >= 0) {
                bookFault(book.substring(0, length), bookFaults[length]);
            }
        }
        bookStands(book.substring(0, 14), 1);
        bookStands(book.substring(0, 24), 2);
        bookStands(book, 3);
        chipFault("", 0);
        chipFault(" ", 1);
        chipFault("room 3   ", 9);
    }

    // "FAULT: the place of the first byte of the first TOKEN that can't stand there"
    private static void firstFaultCounts() {
        chipFault("room 6 m0 ???", 5);
        chipFault("room 0 a10 b10;", 8);
        chipFault("room 0 a0 ? room", 10);
        chipFault("room 0 a0 1000", 10);
        chipFault("  room  9", 8);
        chipFault("room 0 a0 bill ?", 10);
        bookFault("bill 5 m;?", 7);
        bookFault("stuff a 9 8;bill 1000 z;", 10);
        bookFault("  stuff  a  5  4;", 15);
        bookFault("alike a a;stuff", 8);
        bookFault("stuff a 5 6;?", 12);
    }

    /** Behind each beginning of a text the tokens that can stand there are given; all others are faults there. */
    private static void eachTokenInEachPlace() {
        String[] tokens = {"room", "pores", "stuff", "alike", "bill", "a", "l", "m", "0", "5", "6", "9", "10", "999", "1000", "00",
            ";", "?", "word"};
        String[][] chips = {{"", "room"}, {"room ", "0 5"}, {"room 0 ", "pores a l"}, {"room 0 pores ", "a l"},
            {"room 0 a ", "0 5 6 9"}, {"room 0 a1 ", "a l ;"}, {"room 0 a1; ", ""}};
        String[][] books = {{"", "stuff alike bill"}, {"stuff ", "a l"}, {"stuff a ", "0 5 6 9 10 999"}, {"stuff a 6 ", "6 9 10 999"},
            {"stuff a 6 6 ", ";"}, {"alike ", "a l"}, {"alike a ", "l"}, {"alike l ", "a"}, {"alike a l ", ";"},
            {"bill ", "0 5 6 9 10 999"}, {"bill 5 ", "a l"}, {"bill 5 a ", ";"}, {"bill 5 a; ", "stuff alike bill"}};
        for (String token : tokens) {
            for (String[] place : chips) {
                boolean stands = (" " + place[1] + " ").contains(" " + token + " ");
                if (!stands) {
                    chipFault(place[0] + token, place[0].length());
                } else if (!token.equals(";")) {
                    chipFault(place[0] + token, place[0].length() + token.length());
                }
            }
            for (String[] place : books) {
                boolean stands = (" " + place[1] + " ").contains(" " + token + " ");
                if (!stands) {
                    bookFault(place[0] + token, place[0].length());
                } else if (!token.equals(";")) {
                    bookFault(place[0] + token, place[0].length() + token.length());
                }
            }
        }
    }

    // "TUNES: 0 MISS (1 .. 50; 10 at first), 1 SOIL (0 .. 9; 1), 2 LAMP (0, 1; 0), 3 WAIT (0 .. 20 ..; 2), 4 THIN (0 .. 9 ..; 3)"
    private static void tunes() {
        int[][] bounds = {{1, 50, 10}, {0, 9, 1}, {0, 1, 0}, {0, 20, 2}, {0, 9, 3}};
        for (int what = 0; what < bounds.length; what++) {
            CoatRows x = new CoatRows();
            int was = bounds[what][2];
            for (int v = bounds[what][0]; v <= bounds[what][1]; v++) {
                due("tune " + what + " to " + v, was, x.tune(what, v));
                was = v;
            }
            due("too much", BAD, x.tune(what, bounds[what][1] + 1));
            due("too little", BAD, x.tune(what, bounds[what][0] - 1));
            due("it stays", was, x.tune(what, bounds[what][0]));
            for (int other = 0; other < bounds.length; other++) {
                if (other != what) {
                    due("tune " + other + " stays", bounds[other][2], x.tune(other, bounds[other][2]));
                }
            }
        }
    }

    // "Two COLOURS are the SAME, if they are one, or if they are alike and LAMP is 0"
    private static void same() {
        CoatRows x = Checks.rows("alike a b;alike b c;", "room 0 a0;", "room 1 b0;", "room 2 c0;", "room 3 a0;");
        for (int lamp = 0; lamp <= 1; lamp++) {
            x.tune(2, lamp);
            int alike = lamp == 0 ? 0 : 20;
            due("one colour", 0, x.least(0, 3));
            due("alike", alike, x.least(0, 1));
            due("alike, both ways", alike, x.least(1, 0));
            due("alike to another", alike, x.least(2, 1));
            due("not further", 20, x.least(0, 2));
            due("paintings", lamp == 0 ? 1 : 3, x.painting(-1));
            due("laid", lamp == 0 ? 0 : -9, x.laid(0, 1, 0));
            due("moved", lamp == 0 ? 1 : 3, x.face(0, 3));
        }
        x.tune(2, 0);
        due("paintings as before", 1, x.painting(-1));
    }
}
