import java.util.ArrayList;
import java.util.List;
import java.util.function.Consumer;
import java.util.function.ToLongFunction;

/**
 * What follows from chips, book and tunes follows at once: an object that was asked everything and is changed then
 * answers every question, whichever is asked first, as one does that came to the same state by another way.
 */
public final class ChangesTest {
    private static final Checks CHECKS = new Checks();
    private static final String A = "room 0 pores a1b2c3;", B = "room 1 b0 d9;", C = "room 2 c4a1;", D = "room 0 d3a2b9;";
    private static final String BOOK = "stuff a 10 90;alike b c;stuff d 0 700;bill 30 a;bill 60 b;bill 70 b;bill 5 c;";
    private static final String OTHER = "stuff a 0 20;stuff b 100 800;alike a b;bill 15 a;bill 500 b;bill 3 d;";

    private record Question(String name, ToLongFunction<CoatRows> asked) { }

    public static void main(String[] args) {
        change("a chip", () -> rows(BOOK, A, B), x -> Checks.chip(x, C), () -> rows(BOOK, A, B, C));
        change("the first chip", () -> rows(BOOK), x -> Checks.chip(x, D), () -> rows(BOOK, D));
        change("drop the first", () -> rows(BOOK, A, B, C), x -> x.drop(0), () -> rows(BOOK, B, C));
        change("drop one between", () -> rows(BOOK, A, B, C), x -> x.drop(1), () -> rows(BOOK, A, C));
        change("drop the last", () -> rows(BOOK, A, B, C), x -> x.drop(2), () -> rows(BOOK, A, B));
        change("drop all", () -> rows(BOOK, A), x -> x.drop(0), () -> rows(BOOK));
        change("one for another", () -> rows(BOOK, A, C), ChangesTest::firstForAnother, () -> rows(BOOK, C, B));
        change("another book", () -> rows(BOOK, A, B, C), x -> Checks.book(x, OTHER), () -> rows(OTHER, A, B, C));
        change("no book", () -> rows(BOOK, A, B, C), CoatRows::book, () -> rows("", A, B, C));
        change("back", () -> kept(A, B, D), x -> x.back(1), () -> rows(BOOK, A, B, D));
        change("back to none", () -> kept(), x -> x.back(1), () -> rows(BOOK));
        change("back to one", () -> kept(D), x -> x.back(1), () -> rows(BOOK, D));
        tunes();
        CHECKS.end("ChangesTest");
    }

    private static CoatRows rows(String book, String... chips) {
        return Checks.rows(book, chips);
    }

    private static void firstForAnother(CoatRows x) {
        x.drop(0);
        Checks.chip(x, B);
    }

    /** Chips that image 1 keeps; others are there now. */
    private static CoatRows kept(String... chips) {
        CoatRows x = rows(BOOK, chips);
        x.keep(1);
        while (x.count(0) > 0) {
            x.drop(0);
        }
        Checks.chip(x, C);
        Checks.chip(x, "room 5 a9;");
        return x;
    }

    private static void tunes() {
        int[][] values = {{10, 1, 50}, {1, 0, 9}, {0, 1, 0}, {2, 0, 20}, {3, 9, 0}};
        for (int what = 0; what < values.length; what++) {
            int tune = what;
            for (int v : values[what]) {
                for (int was : values[what]) {
                    change("tune " + tune + " from " + was + " to " + v, () -> tuned(tune, was), x -> x.tune(tune, v),
                        () -> tuned(tune, v));
                }
            }
        }
    }

    private static CoatRows tuned(int what, int v) {
        CoatRows x = new CoatRows();
        x.tune(what, v);
        Checks.book(x, BOOK);
        Checks.chip(x, A);
        Checks.chip(x, B);
        Checks.chip(x, C);
        return x;
    }

    private interface Made {
        CoatRows make();
    }

    private static void change(String name, Made start, Consumer<CoatRows> changed, Made end) {
        for (Question question : questions()) {
            CoatRows x = start.make();
            Answers.asked(x);
            changed.accept(x);
            long want = question.asked.applyAsLong(end.make());
            CHECKS.due(question.name + " asked first behind " + name, want, question.asked.applyAsLong(x));
        }
        CoatRows x = start.make();
        changed.accept(x);
        List<String> want = Answers.asked(end.make());
        List<String> got = Answers.asked(x);
        for (int i = 0; i < Math.max(want.size(), got.size()); i++) {
            String due = i < want.size() ? want.get(i) : "nothing more";
            String said = i < got.size() ? got.get(i) : "nothing more";
            CHECKS.due(name + ": '" + said + "' for '" + due + "'", 1, said.equals(due) ? 1 : 0);
        }
    }

    private static List<Question> questions() {
        List<Question> all = new ArrayList<>();
        all.add(new Question("next", CoatRows::next));
        all.add(new Question("enough", x -> x.enough(4, 80)));
        for (int k = -1; k < 6; k++) {
            int at = k;
            all.add(new Question("painting " + k, x -> x.painting(at)));
            all.add(new Question("had " + k, x -> x.had(at)));
            all.add(new Question("earliest " + k, x -> x.span(at, 0)));
            all.add(new Question("latest " + k, x -> x.span(at, 1)));
            all.add(new Question("billed " + k, x -> x.billed(at)));
        }
        for (int c = 0; c < 3; c++) {
            int chip = c;
            for (int k = 0; k < 3; k++) {
                int coat = k;
                all.add(new Question("coat " + c + " " + k, x -> x.coat(chip, coat, 2)));
                all.add(new Question("rank " + c + " " + k, x -> x.rank(1, chip, coat)));
                all.add(new Question("laid " + c + " " + k, x -> x.laid(chip, (chip + 1) % 3, coat)));
            }
            for (int what = 0; what < 4; what++) {
                int of = what;
                all.add(new Question("face " + c + " " + what, x -> x.face(chip, of)));
            }
            for (int year : new int[] {5, 10, 20, 30, 90, 700}) {
                all.add(new Question("day " + c + " " + year, x -> x.day(chip, year)));
            }
            all.add(new Question("least " + c, x -> x.least(chip, (chip + 1) % 3)));
            all.add(new Question("ways " + c, x -> x.ways(chip, (chip + 1) % 3)));
        }
        return all;
    }
}
