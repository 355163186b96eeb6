import java.util.ArrayList;
import java.util.Arrays;
import java.util.List;
import java.util.Random;

/** Whole settings of chips, book and tunes that chance makes, every answer to them held against the plain model. */
public final class SweepTest {
    private static final int CALLS_MOST = 512;

    private final Checks checks;
    private final Random chance;
    private final PlainModel y = new PlainModel();
    private final int[] tunes = new int[5];
    private String book;
    private final List<String> chips = new ArrayList<>();
    private CoatRows x;
    private int calls;
    private boolean right = true;

    private SweepTest(Checks checks, long seed) {
        this.checks = checks;
        this.chance = new Random(seed);
    }

    public static void main(String[] args) {
        int settings = args.length > 0 ? Integer.parseInt(args[0]) : 100;
        long first = args.length > 1 ? Long.parseLong(args[1]) : 1;
        int coatsMost = args.length > 2 ? Integer.parseInt(args[2]) : 10;
        Checks checks = new Checks();
        for (int i = 0; i < settings; i++) {
            new SweepTest(checks, first + i).run(1 + i % coatsMost);
        }
        checks.end("SweepTest");
    }

    private void run(int coatsMost) {
        makeSetting(coatsMost);
        tellModel();
        begin();
        pairs();
        begin();
        faces();
        begin();
        rows();
        begin();
        days();
        if (!right) {
            System.out.println("the setting was: " + Arrays.toString(tunes) + " | " + book + " | " + chips);
        }
    }

    private void makeSetting(int coatsMost) {
        int colours = 1 + chance.nextInt(chance.nextBoolean() ? 4 : 12);
        int lastYear = chance.nextBoolean() ? 30 : 999;
        int[] highs = {50, 9, 1, 20, 9};
        for (int what = 0; what < tunes.length; what++) {
            boolean small = what > 0 && chance.nextInt(3) > 0;
            tunes[what] = small ? chance.nextInt(2) : 1 + chance.nextInt(highs[what]);
        }
        book = bookText(colours, lastYear);
        for (int c = 1 + chance.nextInt(4); c > 0; c--) {
            chips.add(chipText(colours, coatsMost));
        }
    }

    private void tellModel() {
        for (int what = 0; what < tunes.length; what++) {
            y.tune(what, tunes[what]);
        }
        tellModel(book);
        checks.due("the model's book", 1, y.book() >= 0 ? 1 : 0);
        for (String chip : chips) {
            tellModel(chip);
            checks.due("the model's chip", 1, y.chip() >= 0 ? 1 : 0);
        }
    }

    private void tellModel(String text) {
        for (char sign : text.toCharArray()) {
            y.type(sign, 1);
        }
    }

    /** Nothing is promised behind 512 calls, so each group of questions goes to an object of its own. */
    private void begin() {
        x = new CoatRows();
        calls = 0;
        for (int what = 0; what < tunes.length; what++) {
            x.tune(what, tunes[what]);
            calls++;
        }
        write(book);
        same("book()", x.book(), book.chars().filter(sign -> sign == ';').count());
        for (int c = 0; c < chips.size(); c++) {
            write(chips.get(c));
            same("chip()", x.chip(), c);
        }
    }

    private void write(String text) {
        Checks.write(x, text);
        calls += 1 + (text.length() + 7) / 8;
    }

    private void same(String call, long got, long want) {
        calls++;
        if (calls > CALLS_MOST) {
            throw new IllegalStateException("a group of questions has too many calls");
        }
        checks.due(call, want, got);
        right &= got == want;
    }

    private String colour(int colours) {
        return "" + (char) ('a' + chance.nextInt(colours));
    }

    private String chipText(int colours, int coatsMost) {
        StringBuilder text = new StringBuilder("room " + chance.nextInt(6) + (chance.nextBoolean() ? " pores" : ""));
        int dirts = 1 + chance.nextInt(10);
        for (int k = 1 + chance.nextInt(coatsMost); k > 0; k--) {
            text.append(' ').append(colour(colours)).append(chance.nextInt(dirts));
        }
        return text.append(';').toString();
    }

    private String bookText(int colours, int lastYear) {
        StringBuilder text = new StringBuilder();
        for (int i = chance.nextInt(4); i > 0; i--) {
            int from = chance.nextInt(lastYear / 2);
            text.append("stuff " + colour(colours) + " " + from + " " + (from + lastYear / 3 + chance.nextInt(lastYear / 6)) + ";");
        }
        for (int i = chance.nextInt(4); i > 0; i--) {
            int l = chance.nextInt(Math.min(12, colours + 1));
            int m = (l + 1 + chance.nextInt(11)) % Math.min(12, colours + 1);
            if (l != m) {
                text.append("alike " + (char) ('a' + l) + " " + (char) ('a' + m) + ";");
            }
        }
        for (int i = chance.nextInt(9); i > 0; i--) {
            text.append("bill " + chance.nextInt(lastYear) + " " + colour(colours) + ";");
        }
        return text.toString();
    }

    private void pairs() {
        for (int one = 0; one < chips.size(); one++) {
            for (int other = 0; other < chips.size(); other++) {
                same("least(" + one + ", " + other + ")", x.least(one, other), y.least(one, other));
                same("ways(" + one + ", " + other + ")", x.ways(one, other), y.ways(one, other));
                for (int k = 0; k <= y.about(one, 2); k++) {
                    same("laid(" + one + ", " + other + ", " + k + ")", x.laid(one, other, k), y.laid(one, other, k));
                }
            }
        }
    }

    private void faces() {
        same("next()", x.next(), y.next());
        for (int c = 0; c < chips.size(); c++) {
            for (int what = 0; what < 4; what++) {
                same("face(" + c + ", " + what + ")", x.face(c, what), y.face(c, what));
            }
            for (int k = 0; k < y.about(c, 2); k++) {
                same("coat(" + c + ", " + k + ", 2)", x.coat(c, k, 2), y.coat(c, k, 2));
                int kind = chance.nextInt(6);
                same("rank(" + kind + ", " + c + ", " + k + ")", x.rank(kind, c, k), y.rank(kind, c, k));
            }
        }
        same("trace()", x.trace(), y.trace());
    }

    private void rows() {
        int many = y.painting(-1);
        for (int k = -1; k <= many; k++) {
            same("painting(" + k + ")", x.painting(k), y.painting(k));
            same("had(" + k + ")", x.had(k), y.had(k));
            same("span(" + k + ", 0)", x.span(k, 0), y.span(k, 0));
            same("span(" + k + ", 1)", x.span(k, 1), y.span(k, 1));
            same("billed(" + k + ")", x.billed(k), y.billed(k));
        }
    }

    /** On both sides of each end of each span, since only there a day's answer can change. */
    private void days() {
        for (int k = 0; k < y.painting(-1); k++) {
            for (int what = 0; what < 2; what++) {
                int end = y.span(k, what);
                int c = chance.nextInt(chips.size());
                for (int year = Math.max(0, end - 1); year <= Math.min(999, end + 1); year++) {
                    same("day(" + c + ", " + year + ")", x.day(c, year), y.day(c, year));
                }
            }
        }
    }
}
