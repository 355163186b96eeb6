import java.util.ArrayList;
import java.util.List;
import java.util.Random;

/** Runs of calls that chance makes (from seeds that are always the same), held against the plain model. */
public final class PlainModelTest {
    private static final String[] JUNK = {";", "room", "pores", "stuff", "alike", "bill", "m", "z", "ab", "0", "00", "07",
        "5", "6", "9", "10", "999", "1000", "12345678901234567890", "A", "#", "\t", "\u00ff", "-", "a", "l", "rooms", " "};

    /** A step makes at most some sixty calls, and the document promises nothing behind 512. */
    private static final int CALLS_BEFORE_LAST_STEP = 440;
    private static final int LONG_TEXT = 60;

    private final Checks checks = new Checks();
    private final Random chance;
    private final int coatsMost;
    private final int coloursMost;
    private final CoatRows x = new CoatRows();
    private final PlainModel y = new PlainModel();
    private final List<String> told = new ArrayList<>();
    private int calls;

    private PlainModelTest(long seed, int coatsMost, int coloursMost) {
        chance = new Random(seed);
        this.coatsMost = coatsMost;
        this.coloursMost = coloursMost;
    }

    public static void main(String[] args) {
        int runs = args.length > 0 ? Integer.parseInt(args[0]) : 60;
        long first = args.length > 1 ? Long.parseLong(args[1]) : 1;
        Checks all = new Checks();
        for (int run = 0; run < runs; run++) {
            int coats = new int[] {3, 5, 7}[run % 3];
            int colours = new int[] {2, 3, 5, 12}[run % 4];
            boolean right = new PlainModelTest(first + run, coats, colours).run();
            all.due("run " + run, 1, right ? 1 : 0);
        }
        all.end("PlainModelTest");
    }

    private boolean run() {
        while (calls < CALLS_BEFORE_LAST_STEP) {
            if (!step()) {
                told.forEach(System.out::println);
                return false;
            }
        }
        return true;
    }

    private boolean same(String call, long got, long want) {
        calls++;
        told.add(call + " = " + got);
        checks.due(call, want, got);
        return got == want;
    }

    private int pick(int low, int high) {
        return low + chance.nextInt(high - low + 1);
    }

    private boolean rarely() {
        return chance.nextInt(12) == 0;
    }

    private int year() {
        return chance.nextBoolean() ? pick(0, 999) : pick(0, 150);
    }

    private String colourSign() {
        return "" + (char) ('a' + chance.nextInt(coloursMost));
    }

    private String gap() {
        return "   ".substring(0, chance.nextInt(3));
    }

    private String join(List<String> tokens) {
        if (!tokens.isEmpty() && chance.nextInt(5) == 0) {
            int at = chance.nextInt(tokens.size() + 1);
            String junk = JUNK[chance.nextInt(JUNK.length)];
            switch (chance.nextInt(3)) {
                case 0 -> tokens.add(at, junk);
                case 1 -> tokens.set(Math.max(0, at - 1), junk);
                default -> tokens.remove(Math.max(0, at - 1));
            }
        }
        StringBuilder text = new StringBuilder(gap());
        String before = ";";
        for (String token : tokens) {
            boolean apart = isWordOrNumber(before, 'a', 'z') && isWordOrNumber(token, 'a', 'z')
                || isWordOrNumber(before, '0', '9') && isWordOrNumber(token, '0', '9');
            text.append(apart && chance.nextInt(40) != 0 ? " " : gap()).append(token);
            before = token;
        }
        return text.append(gap()).toString();
    }

    private static boolean isWordOrNumber(String token, char low, char high) {
        return !token.isEmpty() && token.charAt(0) >= low && token.charAt(0) <= high;
    }

    private String chipText() {
        List<String> tokens = new ArrayList<>(List.of("room", "" + pick(0, chance.nextBoolean() ? 1 : 5)));
        if (chance.nextInt(3) == 0) {
            tokens.add("pores");
        }
        int coats = rarely() ? 11 : pick(1, coatsMost);
        for (int k = 0; k < coats; k++) {
            tokens.add(colourSign());
            tokens.add("" + (chance.nextBoolean() ? 0 : pick(0, rarely() ? 10 : 9)));
        }
        tokens.add(";");
        return join(tokens);
    }

    private String bookText() {
        List<String> tokens = new ArrayList<>();
        int items = pick(0, 14);
        for (int i = 0; i < items; i++) {
            switch (chance.nextInt(4)) {
                case 0 -> {
                    int from = year();
                    tokens.addAll(List.of("stuff", colourSign(), "" + from, "" + Math.min(999, from + pick(rarely() ? -2 : 0, 400))));
                }
                case 1 -> {
                    int l = chance.nextInt(12);
                    int m = rarely() ? l : (l + pick(1, 11)) % 12;
                    boolean near = chance.nextBoolean() && m != l && coloursMost > 2;
                    tokens.addAll(List.of("alike", "" + (char) ('a' + (near ? l % 3 : l)), "" + (char) ('a' + (near ? (l + 1) % 3 : m))));
                }
                default -> tokens.addAll(List.of("bill", "" + year(), colourSign()));
            }
            tokens.add(";");
        }
        return join(tokens);
    }

    private boolean type(String text) {
        boolean right = true;
        for (int i = 0; i < text.length() && right; ) {
            int n = Math.min(text.length() - i, text.length() > LONG_TEXT ? 8 : pick(1, 8));
            long v = chance.nextLong();
            for (char sign : text.substring(i, i + n).toCharArray()) {
                v = v << 8 | sign;
            }
            right = same("type(" + v + "L, " + n + ")", x.type(v, n), y.type(v, n));
            i += n;
        }
        return right;
    }

    private int c() {
        return rarely() ? pick(-2, 5) : pick(0, Math.max(0, y.count(0) - 1));
    }

    private int k() {
        return rarely() ? pick(-2, 45) : pick(-1, coatsMost);
    }

    private int what(int most) {
        return rarely() ? pick(-2, most + 2) : pick(0, most);
    }

    private boolean step() {
        int c = c();
        int d = c();
        int k = k();
        switch (chance.nextInt(34)) {
            case 0, 1, 2: {
                String text = chipText();
                return type(text) && same("chip()", x.chip(), y.chip()) && (y.count(3) == 0 || chance.nextInt(3) == 0
                    || same("clear()", x.clear(), y.clear()));
            }
            case 3: {
                String text = bookText();
                return type(text) && same("book()", x.book(), y.book()) && (y.count(3) == 0 || chance.nextInt(3) == 0
                    || same("clear()", x.clear(), y.clear()));
            }
            case 4: return chance.nextInt(3) > 0 || same("drop(" + c + ")", x.drop(c), y.drop(c));
            case 5: {
                int what = what(2);
                return same("about(" + c + ", " + what + ")", x.about(c, what), y.about(c, what));
            }
            case 6, 7: {
                int what = what(2);
                return same("coat(" + c + ", " + k + ", " + what + ")", x.coat(c, k, what), y.coat(c, k, what));
            }
            case 8: {
                int l = what(11);
                int what = what(2);
                return same("colour(" + l + ", " + what + ")", x.colour(l, what), y.colour(l, what));
            }
            case 9, 10: {
                int what = what(4);
                int v = chance.nextBoolean() ? pick(0, 2) : pick(-1, 52);
                return same("tune(" + what + ", " + v + ")", x.tune(what, v), y.tune(what, v));
            }
            case 11: return same("least(" + c + ", " + d + ")", x.least(c, d), y.least(c, d));
            case 12: return same("ways(" + c + ", " + d + ")", x.ways(c, d), y.ways(c, d));
            case 13, 14: return same("laid(" + c + ", " + d + ", " + k + ")", x.laid(c, d, k), y.laid(c, d, k));
            default: return stepFurther(c, k);
        }
    }

    private boolean stepFurther(int c, int k) {
        switch (chance.nextInt(19)) {
            case 0, 1: return same("painting(" + k + ")", x.painting(k), y.painting(k));
            case 2, 3: return same("had(" + k + ")", x.had(k), y.had(k));
            case 4, 5, 6: {
                int what = what(3);
                return same("face(" + c + ", " + what + ")", x.face(c, what), y.face(c, what));
            }
            case 7, 8: {
                int what = what(1);
                return same("span(" + k + ", " + what + ")", x.span(k, what), y.span(k, what));
            }
            case 9, 10: {
                int year = rarely() ? pick(-1, 1001) : year();
                return same("day(" + c + ", " + year + ")", x.day(c, year), y.day(c, year));
            }
            case 11: {
                int b = what(7);
                int what = what(1);
                return same("bill(" + b + ", " + what + ")", x.bill(b, what), y.bill(b, what));
            }
            case 12: return same("billed(" + k + ")", x.billed(k), y.billed(k));
            case 13: {
                int odds = rarely() ? pick(-2, 102) : pick(0, 100);
                return same("enough(" + k + ", " + odds + ")", x.enough(k, odds), y.enough(k, odds));
            }
            case 14: return same("next()", x.next(), y.next());
            case 15, 16: {
                int kind = what(5);
                return same("rank(" + kind + ", " + c + ", " + k + ")", x.rank(kind, c, k), y.rank(kind, c, k))
                    && same("trace()", x.trace(), y.trace());
            }
            case 17: {
                int image = what(1);
                return chance.nextBoolean() ? same("keep(" + image + ")", x.keep(image), y.keep(image))
                    : same("back(" + image + ")", x.back(image), y.back(image));
            }
            default: {
                int what = what(3);
                return same("count(" + what + ")", x.count(what), y.count(what));
            }
        }
    }
}
