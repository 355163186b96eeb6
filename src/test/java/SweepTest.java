import java.util.Random;

/** Whole settings of chips, book and tunes that chance makes, every answer to them held against the plain model. */
public final class SweepTest {
    private final Checks checks;
    private final Random chance;
    private final CoatRows x = new CoatRows();
    private final PlainModel y = new PlainModel();
    private final StringBuilder told = new StringBuilder();
    private boolean right = true;

    private SweepTest(Checks checks, long seed) {
        this.checks = checks;
        this.chance = new Random(seed);
    }

    public static void main(String[] args) {
        int settings = args.length > 0 ? Integer.parseInt(args[0]) : 150;
        long first = args.length > 1 ? Long.parseLong(args[1]) : 1;
        int coatsMost = args.length > 2 ? Integer.parseInt(args[2]) : 6;
        Checks checks = new Checks();
        for (int i = 0; i < settings; i++) {
            new SweepTest(checks, first + i).run(1 + i % coatsMost);
        }
        checks.end("SweepTest");
    }

    private void run(int coatsMost) {
        int colours = 1 + chance.nextInt(chance.nextBoolean() ? 4 : 12);
        int lastYear = chance.nextBoolean() ? 30 : 999;
        tunes();
        write(book(colours, lastYear));
        same("book()", x.book(), y.book());
        int chips = 1 + chance.nextInt(4);
        for (int c = 0; c < chips; c++) {
            write(chip(colours, coatsMost));
            same("chip()", x.chip(), y.chip());
        }
        pairs(chips);
        faces(chips);
        rows();
        days(chips);
        if (!right) {
            System.out.println("the setting was: " + told);
        }
    }

    private void same(String call, long got, long want) {
        checks.due(call, want, got);
        right &= got == want;
    }

    private void tunes() {
        int[] highs = {50, 9, 1, 20, 9};
        for (int what = 0; what < 5; what++) {
            int v = 1 + chance.nextInt(highs[what]);
            if (what > 0 && chance.nextInt(3) > 0) {
                v = chance.nextInt(2);
            }
            told.append("tune ").append(what).append(' ').append(v).append(" | ");
            same("tune(" + what + ", " + v + ")", x.tune(what, v), y.tune(what, v));
        }
    }

    private void write(String text) {
        told.append(text).append(" | ");
        for (int i = 0; i < text.length(); i++) {
            x.type(text.charAt(i), 1);
            y.type(text.charAt(i), 1);
        }
    }

    private String colour(int colours) {
        return "" + (char) ('a' + chance.nextInt(colours));
    }

    private String chip(int colours, int coatsMost) {
        StringBuilder text = new StringBuilder("room " + chance.nextInt(6) + (chance.nextBoolean() ? " pores" : ""));
        int dirts = 1 + chance.nextInt(10);
        for (int k = 1 + chance.nextInt(coatsMost); k > 0; k--) {
            text.append(' ').append(colour(colours)).append(chance.nextInt(dirts));
        }
        return text.append(';').toString();
    }

    private String book(int colours, int lastYear) {
        StringBuilder text = new StringBuilder();
        for (int i = chance.nextInt(4); i > 0; i--) {
            int from = chance.nextInt(lastYear / 2);
            text.append("stuff " + colour(colours) + " " + from + " " + (from + lastYear / 3 + chance.nextInt(lastYear / 6)) + ";");
        }
        for (int i = chance.nextInt(4); i > 0; i--) {
            int l = chance.nextInt(Math.min(12, colours + 1));
            int m = (l + 1 + chance.nextInt(11)) % Math.min(12, colours + 1);
            if (l != m) {
                text.append("alike " + (char) ('a' + l) + " " + (char) ('a' + m) + ";");
            }
        }
        for (int i = chance.nextInt(9); i > 0; i--) {
            text.append("bill " + chance.nextInt(lastYear) + " " + colour(colours) + ";");
        }
        return text.toString();
    }

    private void pairs(int chips) {
        for (int one = 0; one < chips; one++) {
            for (int other = 0; other < chips; other++) {
                same("least(" + one + ", " + other + ")", x.least(one, other), y.least(one, other));
                same("ways(" + one + ", " + other + ")", x.ways(one, other), y.ways(one, other));
                for (int k = 0; k <= y.about(one, 2); k++) {
                    same("laid(" + one + ", " + other + ", " + k + ")", x.laid(one, other, k), y.laid(one, other, k));
                }
            }
        }
    }

    private void faces(int chips) {
        same("next()", x.next(), y.next());
        for (int c = 0; c < chips; c++) {
            for (int what = 0; what < 4; what++) {
                same("face(" + c + ", " + what + ")", x.face(c, what), y.face(c, what));
            }
            for (int k = 0; k < y.about(c, 2); k++) {
                same("coat(" + c + ", " + k + ", 2)", x.coat(c, k, 2), y.coat(c, k, 2));
                int kind = chance.nextInt(6);
                same("rank(" + kind + ", " + c + ", " + k + ")", x.rank(kind, c, k), y.rank(kind, c, k));
            }
        }
        same("trace()", x.trace(), y.trace());
    }

    private void rows() {
        int many = y.painting(-1);
        for (int k = -1; k <= many; k++) {
            same("painting(" + k + ")", x.painting(k), y.painting(k));
            same("had(" + k + ")", x.had(k), y.had(k));
            same("span(" + k + ", 0)", x.span(k, 0), y.span(k, 0));
            same("span(" + k + ", 1)", x.span(k, 1), y.span(k, 1));
            same("billed(" + k + ")", x.billed(k), y.billed(k));
        }
    }

    /** On both sides of each end of each span, since only there a day's answer can change. */
    private void days(int chips) {
        for (int k = 0; k < y.painting(-1); k++) {
            for (int what = 0; what < 2; what++) {
                int end = y.span(k, what);
                int c = chance.nextInt(chips);
                for (int year = Math.max(0, end - 1); year <= Math.min(999, end + 1); year++) {
                    same("day(" + c + ", " + year + ")", x.day(c, year), y.day(c, year));
                }
            }
        }
    }
}
