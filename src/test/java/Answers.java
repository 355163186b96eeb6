import java.util.ArrayList;
import java.util.List;

/**
 * All that an object can be asked, as a list: two objects that answer the same here are in the same state. Asking for
 * all ends the object (tunes are set, its text is read, its images come back), and takes fewer calls than 512 as long as
 * its chips have few coats.
 */
final class Answers {
    private static final int[] YEARS = {0, 49, 50, 500, 999};
    private final CoatRows x;
    private final List<String> all = new ArrayList<>();

    private Answers(CoatRows x) {
        this.x = x;
    }

    static List<String> of(CoatRows x) {
        Answers answers = new Answers(x);
        answers.questions();
        answers.text();
        answers.images();
        answers.tunes();
        return answers.all;
    }

    /** Only what asking does not change. */
    static List<String> asked(CoatRows x) {
        Answers answers = new Answers(x);
        answers.questions();
        return answers.all;
    }

    private void questions() {
        counts();
        book();
        chips();
        pairs();
        paintings();
    }

    private void add(String call, long answer) {
        all.add(call + " " + answer);
    }

    private void counts() {
        for (int what = 0; what < 4; what++) {
            add("count " + what, x.count(what));
        }
        add("trace", x.trace());
        add("next", x.next());
        add("enough", x.enough(3, 90));
    }

    private void book() {
        for (int l = 0; l < 12; l++) {
            for (int what = 0; what < 3; what++) {
                add("colour " + l + " " + what, x.colour(l, what));
            }
        }
        int bills = x.count(2);
        for (int b = 0; b < bills; b++) {
            add("bill " + b + " year", x.bill(b, 0));
            add("bill " + b + " colour", x.bill(b, 1));
        }
    }

    private void chips() {
        int chips = x.count(0);
        for (int c = 0; c < chips; c++) {
            int coats = x.about(c, 2);
            add("about " + c, 100 * x.about(c, 0) + 50 * x.about(c, 1) + coats);
            for (int k = 0; k < coats; k++) {
                for (int what = 0; what < 3; what++) {
                    add("coat " + c + " " + k + " " + what, x.coat(c, k, what));
                }
            }
            for (int what = 0; what < 4; what++) {
                add("face " + c + " " + what, x.face(c, what));
            }
            for (int year : YEARS) {
                add("day " + c + " " + year, x.day(c, year));
            }
        }
    }

    private void pairs() {
        int chips = x.count(0);
        for (int one = 0; one < chips; one++) {
            for (int other = 0; other < chips; other++) {
                if (one != other) {
                    add("least " + one + " " + other, x.least(one, other));
                    add("ways " + one + " " + other, x.ways(one, other));
                    add("laid " + one + " " + other, x.laid(one, other, 0));
                }
            }
        }
    }

    private void paintings() {
        int many = x.painting(-1);
        add("paintings", many);
        add("billed", x.billed(-1));
        for (int k = 0; k < many; k++) {
            add("painting " + k, x.painting(k));
            add("had " + k, x.had(k));
            add("span " + k + " earliest", x.span(k, 0));
            add("span " + k + " latest", x.span(k, 1));
            add("billed " + k, x.billed(k));
        }
    }

    /** What is in the text shows when it is read: as it is, and with an end of a chip behind it. */
    private void text() {
        add("drop", x.drop(0));
        add("chip of the text", x.chip());
        add("book of the text", x.book());
        add("type", x.type(0x2064333bL, 4));
        add("chip of the text and its end", x.chip());
        int last = x.count(0) - 1;
        for (int what = 0; what < 3; what++) {
            add("about the last " + what, x.about(last, what));
        }
        for (int k = 0; k < 4; k++) {
            add("coat of the last " + k, 10 * x.coat(last, k, 0) + x.coat(last, k, 1));
        }
        for (int l = 0; l < 12; l++) {
            add("colour of the last book " + l, 1000 * x.colour(l, 0) + x.colour(l, 1));
        }
        add("clear", x.clear());
    }

    private void images() {
        for (int image = 0; image < 2; image++) {
            add("back " + image, x.back(image));
            int chips = x.count(0);
            for (int c = 0; c < chips; c++) {
                int coats = x.about(c, 2);
                add("back " + image + " about " + c, 100 * x.about(c, 0) + 50 * x.about(c, 1) + coats);
                for (int k = 0; k < coats; k++) {
                    add("back " + image + " coat " + c + " " + k, 10 * x.coat(c, k, 0) + x.coat(c, k, 1));
                }
            }
        }
    }

    private void tunes() {
        int[] firsts = {10, 1, 0, 2, 3};
        for (int what = 0; what < firsts.length; what++) {
            add("tune " + what, x.tune(what, firsts[what]));
        }
    }
}
