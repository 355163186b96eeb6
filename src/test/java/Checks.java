/** Counts the answers of a test that are not the ones that are due. */
final class Checks {
    private int made;
    private int wrong;

    void due(String what, long want, long got) {
        made++;
        if (got != want) {
            wrong++;
            System.out.println(what + " answered " + got + ", due is " + want);
        }
    }

    /** Types a text as it stands, up to eight bytes a call; answers what the last call answered. */
    static int write(CoatRows x, String text) {
        int answer = x.count(3);
        for (int i = 0; i < text.length(); i += 8) {
            String part = text.substring(i, Math.min(text.length(), i + 8));
            long v = 0;
            for (char sign : part.toCharArray()) {
                v = v << 8 | sign;
            }
            answer = x.type(v, part.length());
        }
        return answer;
    }

    static int chip(CoatRows x, String text) {
        write(x, text);
        return x.chip();
    }

    static int book(CoatRows x, String text) {
        write(x, text);
        return x.book();
    }

    static CoatRows rows(String book, String... chips) {
        CoatRows x = new CoatRows();
        if (book(x, book) < 0) {
            throw new IllegalStateException("the book has a fault: " + book);
        }
        for (String chip : chips) {
            if (chip(x, chip) < 0) {
                throw new IllegalStateException("the chip has a fault: " + chip);
            }
        }
        return x;
    }

    void end(String name) {
        System.out.println(name + ": " + made + " answers, " + wrong + " not as due");
        if (wrong != 0 || made == 0) {
            System.exit(1);
        }
    }
}
