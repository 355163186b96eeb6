import java.util.List;
import java.util.function.Supplier;
import java.util.function.ToLongFunction;

/**
 * "Refused, and nothing changes": of two objects in the same state one is asked what is to be refused; both have to
 * answer everything alike behind it. The states are a new object, one that is full of everything, one with a text that
 * has not ended, and one from which all chips were dropped.
 */
public final class RefusedTest {
    private static final int BAD = -1, STATE = -2, FULL = -3, NO = -1000000;
    private static final int LOW = Integer.MIN_VALUE, HIGH = Integer.MAX_VALUE;
    private static final Checks CHECKS = new Checks();

    private static final String[] CHIPS = {"room 0 pores a1b2c3;", "room 1 b0 d9;", "room 0 c4;", "room 5 pores d3a2b9;"};
    private static final String BOOK = "stuff a 10 90;alike b c;stuff d 0 700;"
        + "bill 30 a;bill 60 b;bill 70 b;bill 5 c;bill 999 d;bill 0 a;bill 60 a;bill 61 d;";
    private static final String LONG_BOOK = fill("stuff e 3 4;stuff f 999 999;bill 7 l;", 400);

    public static void main(String[] args) {
        numbersOfChips("a new object", CoatRows::new, 0);
        numbersOfChips("full", RefusedTest::full, 4);
        numbersOfChips("an open text", RefusedTest::openText, 2);
        numbersOfChips("dropped", RefusedTest::dropped, 0);
        for (Supplier<CoatRows> state : List.<Supplier<CoatRows>>of(CoatRows::new, RefusedTest::full, RefusedTest::openText,
                RefusedTest::dropped)) {
            numbersOfPaintings(state);
            numbersOfTheBook(state);
            numbersOfTunes(state);
            otherNumbers(state);
        }
        fullOnes();
        noImage();
        faults();
        CHECKS.end("RefusedTest");
    }

    // ---- the states

    private static CoatRows full() {
        CoatRows x = Checks.rows(BOOK, CHIPS);
        x.keep(0);
        x.drop(1);
        Checks.chip(x, "room 3 b5c5;");
        turn(x);
        Checks.write(x, LONG_BOOK);
        return x;
    }

    private static CoatRows openText() {
        CoatRows x = Checks.rows("alike a b;bill 20 a;", CHIPS[0], CHIPS[1]);
        x.keep(1);
        turn(x);
        Checks.write(x, "room 4 pores c7 l9 ");
        return x;
    }

    private static CoatRows dropped() {
        CoatRows x = Checks.rows(BOOK, CHIPS);
        x.keep(1);
        while (x.count(0) > 0) {
            x.drop(0);
        }
        x.keep(0);
        Checks.write(x, "room 2 e1");
        return x;
    }

    private static void turn(CoatRows x) {
        int[] tunes = {7, 2, 0, 1, 4};
        for (int what = 0; what < tunes.length; what++) {
            x.tune(what, tunes[what]);
        }
        x.rank(4, 0, 0);
        x.rank(3, 1, 0);
    }

    private static String fill(String text, int length) {
        return text + " ".repeat(length - text.length());
    }

    // ---- what is refused

    private static void refused(String call, Supplier<CoatRows> state, long due, ToLongFunction<CoatRows> asked) {
        CoatRows x = state.get();
        CHECKS.due(call, due, asked.applyAsLong(x));
        List<String> want = Answers.of(state.get());
        List<String> got = Answers.of(x);
        CHECKS.due(call + ": how many answers behind it", want.size(), got.size());
        for (int i = 0; i < want.size() && i < got.size(); i++) {
            if (!want.get(i).equals(got.get(i))) {
                CHECKS.due(call + " changed '" + want.get(i) + "' to '" + got.get(i) + "'", 0, 1);
            }
        }
    }

    private static void numbersOfChips(String name, Supplier<CoatRows> state, int chips) {
        for (int c : new int[] {LOW, -1, chips, chips + 1, 4, HIGH}) {
            String where = name + ", chip " + c + ": ";
            refused(where + "drop", state, BAD, x -> x.drop(c));
            refused(where + "about", state, BAD, x -> x.about(c, 0));
            refused(where + "coat", state, BAD, x -> x.coat(c, 0, 0));
            refused(where + "face", state, BAD, x -> x.face(c, 0));
            refused(where + "day", state, BAD, x -> x.day(c, 0));
            refused(where + "rank", state, NO, x -> x.rank(5, c, 0));
            refused(where + "least", state, BAD, x -> x.least(c, 0));
            refused(where + "least of it", state, BAD, x -> x.least(0, c));
            refused(where + "ways", state, BAD, x -> x.ways(c, 0));
            refused(where + "ways of it", state, BAD, x -> x.ways(0, c));
            refused(where + "laid", state, BAD, x -> x.laid(c, 0, 0));
            refused(where + "laid beside it", state, BAD, x -> x.laid(0, c, 0));
        }
        for (int c = 0; c < chips; c++) {
            numbersOfOneChip(name + ", chip " + c + ", ", state, c);
        }
    }

    private static void numbersOfOneChip(String name, Supplier<CoatRows> state, int c) {
        int coats = state.get().about(c, 2);
        int other = c == 0 ? 1 : 0;
        refused(name + "least of itself", state, BAD, x -> x.least(c, c));
        refused(name + "ways of itself", state, BAD, x -> x.ways(c, c));
        refused(name + "laid beside itself", state, BAD, x -> x.laid(c, c, 0));
        for (int k : new int[] {LOW, -1, coats, 10, HIGH}) {
            refused(name + "coat " + k, state, BAD, x -> x.coat(c, k, 0));
            refused(name + "painting of coat " + k, state, BAD, x -> x.coat(c, k, 2));
            refused(name + "laid " + k, state, BAD, x -> x.laid(c, other, k));
            for (int kind = 0; kind < 6; kind++) {
                int asKind = kind;
                refused(name + "rank of coat " + k, state, NO, x -> x.rank(asKind, c, k));
            }
        }
        for (int kind : new int[] {LOW, -1, 6, HIGH}) {
            refused(name + "rank as " + kind, state, NO, x -> x.rank(kind, c, 0));
        }
        for (int what : new int[] {LOW, -1, 3, HIGH}) {
            refused(name + "about " + what, state, BAD, x -> x.about(c, what));
            refused(name + "coat, what " + what, state, BAD, x -> x.coat(c, 0, what));
        }
        for (int what : new int[] {LOW, -1, 4, HIGH}) {
            refused(name + "face " + what, state, BAD, x -> x.face(c, what));
        }
        for (int year : new int[] {LOW, -1, 1000, HIGH}) {
            refused(name + "day " + year, state, BAD, x -> x.day(c, year));
        }
    }

    private static void numbersOfPaintings(Supplier<CoatRows> state) {
        int many = state.get().painting(-1);
        for (int k : new int[] {LOW, -2, many, 40, HIGH}) {
            refused("painting " + k, state, BAD, x -> x.painting(k));
            refused("billed " + k, state, BAD, x -> x.billed(k));
            refused("had " + k, state, BAD, x -> x.had(k));
            refused("span " + k, state, BAD, x -> x.span(k, 0));
        }
        refused("had -1", state, BAD, x -> x.had(-1));
        refused("span -1", state, BAD, x -> x.span(-1, 0));
        for (int what : new int[] {LOW, -1, 2, HIGH}) {
            refused("span, what " + what, state, BAD, x -> x.span(0, what));
            refused("span of the last, what " + what, state, BAD, x -> x.span(many - 1, what));
        }
    }

    private static void numbersOfTheBook(Supplier<CoatRows> state) {
        int bills = state.get().count(2);
        for (int b : new int[] {LOW, -1, bills, 8, HIGH}) {
            refused("bill " + b, state, BAD, x -> x.bill(b, 0));
        }
        for (int what : new int[] {LOW, -1, 2, HIGH}) {
            refused("bill, what " + what, state, BAD, x -> x.bill(0, what));
        }
        for (int l : new int[] {LOW, -1, 12, HIGH}) {
            refused("colour " + l, state, BAD, x -> x.colour(l, 0));
        }
        for (int what : new int[] {LOW, -1, 3, HIGH}) {
            refused("colour, what " + what, state, BAD, x -> x.colour(11, what));
        }
    }

    private static void numbersOfTunes(Supplier<CoatRows> state) {
        int[] lows = {1, 0, 0, 0, 0};
        int[] highs = {50, 9, 1, 20, 9};
        for (int what = 0; what < lows.length; what++) {
            int tune = what;
            for (int v : new int[] {LOW, lows[what] - 1, highs[what] + 1, HIGH}) {
                refused("tune " + what + " to " + v, state, BAD, x -> x.tune(tune, v));
            }
        }
        for (int what : new int[] {LOW, -1, 5, HIGH}) {
            refused("tune " + what, state, BAD, x -> x.tune(what, 1));
        }
    }

    private static void otherNumbers(Supplier<CoatRows> state) {
        for (int n : new int[] {LOW, -1, 0, 9, HIGH}) {
            refused("type " + n + " bytes", state, BAD, x -> x.type(0x6161616161616161L, n));
        }
        for (int image : new int[] {LOW, -1, 2, HIGH}) {
            refused("keep " + image, state, BAD, x -> x.keep(image));
            refused("back " + image, state, BAD, x -> x.back(image));
        }
        for (int what : new int[] {LOW, -1, 4, HIGH}) {
            refused("count " + what, state, BAD, x -> x.count(what));
        }
        for (int k : new int[] {LOW, -1, 0, 11, HIGH}) {
            refused("enough of " + k, state, BAD, x -> x.enough(k, 50));
        }
        for (int odds : new int[] {LOW, -1, 101, HIGH}) {
            refused("enough for " + odds, state, BAD, x -> x.enough(1, odds));
        }
    }

    private static void fullOnes() {
        for (int n = 1; n <= 8; n++) {
            int bytes = n;
            refused("type " + n + " into a full text", RefusedTest::full, FULL, x -> x.type(0x6161616161616161L, bytes));
        }
        for (int free = 1; free <= 7; free++) {
            int left = free;
            refused("type one more than the " + free + " that are free", () -> almostFull(left), FULL,
                x -> x.type(0x6161616161616161L, left + 1));
            refused("type eight into " + free + " that are free", () -> almostFull(left), FULL, x -> x.type(0, 8));
        }
        refused("a fifth chip of a text with a fault", RefusedTest::full, FULL, CoatRows::chip);
        refused("a fifth chip", () -> fourChipsAnd("room 2 e1f2;"), FULL, CoatRows::chip);
        refused("a fifth chip of no text", () -> fourChipsAnd(""), FULL, CoatRows::chip);
    }

    private static CoatRows almostFull(int free) {
        CoatRows x = Checks.rows("", CHIPS[0]);
        Checks.write(x, fill("stuff a 1 2;", 400 - free));
        return x;
    }

    private static CoatRows fourChipsAnd(String text) {
        CoatRows x = Checks.rows(BOOK, CHIPS);
        Checks.write(x, text);
        return x;
    }

    private static void noImage() {
        refused("back 0 of a new object", CoatRows::new, STATE, x -> x.back(0));
        refused("back 1 of a new object", CoatRows::new, STATE, x -> x.back(1));
        refused("back 1, only 0 was kept", RefusedTest::full, STATE, x -> x.back(1));
        refused("back 0, only 1 was kept", RefusedTest::openText, STATE, x -> x.back(0));
    }

    /** Each text fails as late as may be, when most of a chip or a book has been read already. */
    private static void faults() {
        String[][] texts = {
            {"room 5 pores e1f2g3", "19"}, {"room 5 pores e1f2g3;;", "20"}, {"room 5 pores e1f2g", "18"},
            {"room 5 pores", "12"}, {"room 5", "6"}, {"room", "4"}, {"", "0"}, {"   ", "3"},
            {"room 5 pores e1f2g3h4i5j6k7l8a9b0c1;", "33"}, {"room 5 e1 f10;", "11"}, {"room 6", "5"},
        };
        for (String[] text : texts) {
            refused("chip of '" + text[0] + "'", () -> threeChipsAnd(text[0]), -10 - Integer.parseInt(text[1]), CoatRows::chip);
        }
        String[][] books = {
            {"stuff a 1 2;alike a d;bill 3 e;stuff b 9 8;", "41"}, {"stuff a 1 2;alike a d;bill 3 e", "30"},
            {"stuff a 1 2;alike a d;bill 3 e;alike d d;", "39"}, {"stuff a 1 2;alike a d;bill 3 e;;", "31"},
            {"bill 1 e;".repeat(8) + "stuff a 1 1;bill 2 f;", "84"}, {"stuff a 1 2 3", "12"}, {"alike a d bill", "10"},
            {"bill 3 e f", "9"}, {"stuff a 1 2;pores;", "12"},
        };
        for (String[] text : books) {
            refused("book of '" + text[0] + "'", () -> threeChipsAnd(text[0]), -10 - Integer.parseInt(text[1]), CoatRows::book);
        }
    }

    private static CoatRows threeChipsAnd(String text) {
        CoatRows x = Checks.rows(BOOK, CHIPS[0], CHIPS[1], CHIPS[3]);
        x.keep(1);
        turn(x);
        Checks.write(x, text);
        return x;
    }
}
