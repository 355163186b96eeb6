import java.util.Arrays;

/** Chips of coats of paint from rooms, and what they tell together. ../shared/DOC.md has the promises. */
public final class CoatRows {
    public static final int BAD = -1, STATE = -2, FULL = -3, NONE = -9;
    public static final int NO = -1000000;

    private static final int TEXT_MOST = 400;
    private static final int CHIPS_MOST = 4;
    private static final int COATS_MOST = 10;
    private static final int COLOURS = 12;
    private static final int ROOMS = 6;
    private static final int DIRT_MOST = 9;
    private static final int BILLS_MOST = 8;
    private static final int LAST_YEAR = 999;
    private static final int IMAGES = 2;
    /** In a shortest row every painting is a coat of some chip, so there are never more. */
    private static final int PAINTINGS_MOST = CHIPS_MOST * COATS_MOST;

    private static final int FIRST_FAULT = -10;
    private static final int WITHOUT_COATS = 1 << COATS_MOST;

    private static final int MISS = 0, SOIL = 1, LAMP = 2, WAIT = 3, THIN = 4;
    private static final int[] TUNE_LOW = {1, 0, 0, 0, 0};
    private static final int[] TUNE_HIGH = {50, 9, 1, 20, 9};

    private static final long WHOLE_ODDS = 1000000L;
    private static final long HUNDREDTH = 10000L;
    private static final int CHIPS_ENOUGH_MOST = 9;

    private final Text text = new Text();
    private final Shelf chips = new Shelf();
    private final Shelf[] images = new Shelf[IMAGES];
    private final int[] tunes = {10, 1, 0, 2, 3};
    private final int[] same = new int[COLOURS];
    private final Laying laying = new Laying();
    private final Paintings paintings = new Paintings();
    private final Years years = new Years();
    private Book book = new Book();
    private Book spare = new Book();
    private boolean settled;
    private long trace;

    public CoatRows() {
        for (int i = 0; i < IMAGES; i++) {
            images[i] = new Shelf();
        }
    }

    // ---- texts

    public int type(long v, int n) {
        if (n < 1 || n > 8) {
            return BAD;
        }
        return text.add(v, n) ? text.length : FULL;
    }

    public int clear() {
        int had = text.length;
        text.length = 0;
        return had;
    }

    public int chip() {
        if (chips.count >= CHIPS_MOST) {
            return FULL;
        }
        text.split();
        // The first free chip of the shelf is nobody's yet, so a text with a fault may spoil it.
        if (!chips.row[chips.count].read(text)) {
            return FIRST_FAULT - text.fault();
        }
        text.length = 0;
        chips.count++;
        settled = false;
        return chips.count - 1;
    }

    public int book() {
        text.split();
        if (!spare.read(text)) {
            return FIRST_FAULT - text.fault();
        }
        Book old = book;
        book = spare;
        spare = old;
        text.length = 0;
        settled = false;
        return book.items;
    }

    public int drop(int c) {
        if (!isChip(c)) {
            return BAD;
        }
        chips.takeOut(c);
        settled = false;
        return chips.count;
    }

    public int about(int c, int what) {
        if (!isChip(c)) {
            return BAD;
        }
        Chip chip = chips.row[c];
        switch (what) {
            case 0: return chip.room;
            case 1: return chip.pores ? 1 : 0;
            case 2: return chip.size;
            default: return BAD;
        }
    }

    public int coat(int c, int k, int what) {
        if (!isCoat(c, k)) {
            return BAD;
        }
        switch (what) {
            case 0: return chips.row[c].colours[k];
            case 1: return chips.row[c].dirts[k];
            case 2:
                settle();
                return paintingOf(c, k);
            default: return BAD;
        }
    }

    public int colour(int l, int what) {
        if (l < 0 || l >= COLOURS) {
            return BAD;
        }
        switch (what) {
            case 0: return book.from[l];
            case 1: return book.until[l];
            case 2: return book.alike[l];
            default: return BAD;
        }
    }

    public int tune(int what, int v) {
        if (what < 0 || what >= tunes.length || v < TUNE_LOW[what] || v > TUNE_HIGH[what]) {
            return BAD;
        }
        int was = tunes[what];
        tunes[what] = v;
        if (what == LAMP && was != v) {
            settled = false;
        }
        return was;
    }

    // ---- two rows

    public int least(int one, int other) {
        if (!areTwo(one, other)) {
            return BAD;
        }
        lay(one, other);
        return laying.leastCost();
    }

    public long ways(int one, int other) {
        if (!areTwo(one, other)) {
            return BAD;
        }
        lay(one, other);
        return laying.leastWays();
    }

    public int laid(int one, int other, int k) {
        if (!areTwo(one, other) || !isCoat(one, k)) {
            return BAD;
        }
        lay(one, other);
        return laying.beside(k);
    }

    // ---- paintings

    public int painting(int k) {
        settle();
        if (k == -1) {
            return paintings.count;
        }
        return isPainting(k) ? paintings.colours[k] : BAD;
    }

    public int had(int k) {
        settle();
        return isPainting(k) ? paintings.had[k] : BAD;
    }

    public int face(int c, int what) {
        if (!isChip(c)) {
            return BAD;
        }
        settle();
        switch (what) {
            case 0: return missedBy(c);
            case 1: return paintingOf(c, 0);
            case 2: return ageOf(c);
            case 3: return movedFrom(c);
            default: return BAD;
        }
    }

    // ---- years

    public int span(int k, int what) {
        settle();
        if (!isPainting(k) || what < 0 || what > 1) {
            return BAD;
        }
        years.find(paintings, book, tunes[WAIT]);
        if (!years.can) {
            return NONE;
        }
        return what == 0 ? years.earliest[k] : years.latest[k];
    }

    public int day(int c, int year) {
        if (!isChip(c) || year < 0 || year > LAST_YEAR) {
            return BAD;
        }
        settle();
        years.find(paintings, book, tunes[WAIT]);
        return years.can ? lastCoats(c, year) : 0;
    }

    public int bill(int b, int what) {
        if (b < 0 || b >= book.bills) {
            return BAD;
        }
        switch (what) {
            case 0: return book.billYears[b];
            case 1: return book.billColours[b];
            default: return BAD;
        }
    }

    public int billed(int k) {
        settle();
        if (k != -1 && !isPainting(k)) {
            return BAD;
        }
        years.find(paintings, book, tunes[WAIT]);
        years.match(paintings, book);
        return k == -1 ? years.matched : years.billOf[k];
    }

    // ---- how many, where

    public int enough(int k, int odds) {
        if (k < 1 || k > COATS_MOST || odds < 0 || odds > 100) {
            return BAD;
        }
        long all = 1;
        long lacking = 1;
        for (int n = 1; n <= CHIPS_ENOUGH_MOST; n++) {
            all *= 10;
            lacking *= tunes[THIN];
            // 10 to the ninth, times a million, is far below what a long holds.
            long found = all > 0 ? WHOLE_ODDS * (all - lacking) / all : 0;
            if (oddsOfAll(k, found) >= odds * HUNDREDTH) {
                return n;
            }
        }
        return NONE;
    }

    public int next() {
        settle();
        int room = NONE;
        int most = -1;
        for (int r = 0; r < ROOMS; r++) {
            int here = chips.inRoom(r);
            int unseen = here == 0 ? -1 : paintings.notIn(here);
            if (unseen > most) {
                room = r;
                most = unseen;
            }
        }
        return room;
    }

    // ---- kinds, images

    public int rank(int kind, int c, int k) {
        if (!isCoat(c, k)) {
            return NO;
        }
        settle();
        switch (kind) {
            case 0: return asCoat(c, k);
            case 1: return asWhole(c, k);
            case 2: return asUnder(c, k);
            case 3: return asPatch(c, k);
            case 4: return asScraped(c, k);
            case 5: return asVarnish(c, k);
            default: return NO;
        }
    }

    public int keep(int image) {
        if (image < 0 || image >= IMAGES) {
            return BAD;
        }
        images[image].copy(chips);
        images[image].kept = true;
        return chips.count;
    }

    public int back(int image) {
        if (image < 0 || image >= IMAGES) {
            return BAD;
        }
        if (!images[image].kept) {
            return STATE;
        }
        chips.copy(images[image]);
        settled = false;
        return chips.count;
    }

    public int count(int what) {
        switch (what) {
            case 0: return chips.count;
            case 1: return chips.coats();
            case 2: return book.bills;
            case 3: return text.length;
            default: return BAD;
        }
    }

    public long trace() {
        return trace;
    }

    // ---- what numbers may be

    private boolean isChip(int c) {
        return c >= 0 && c < chips.count;
    }

    private boolean isCoat(int c, int k) {
        return isChip(c) && k >= 0 && k < chips.row[c].size;
    }

    private boolean areTwo(int one, int other) {
        return isChip(one) && isChip(other) && one != other;
    }

    private boolean isPainting(int k) {
        return k >= 0 && k < paintings.count;
    }

    // ---- what follows from the chips and the book

    private void findSame() {
        for (int l = 0; l < COLOURS; l++) {
            same[l] = 1 << l | (tunes[LAMP] == 0 ? book.alike[l] : 0);
        }
    }

    private void lay(int one, int other) {
        findSame();
        laying.lay(chips.row[one], chips.row[other], same, tunes[MISS], tunes[SOIL]);
    }

    /** The paintings are the dearest to find, so they are kept until chips, book or lamp change. */
    private void settle() {
        if (!settled) {
            findSame();
            paintings.find(chips, same);
            settled = true;
        }
    }

    /** Only when all is settled. */
    private int paintingOf(int c, int k) {
        return paintings.ofCoat[c * COATS_MOST + k];
    }

    private int missedBy(int c) {
        int size = chips.row[c].size;
        return paintingOf(c, size - 1) - paintingOf(c, 0) + 1 - size;
    }

    private int ageOf(int c) {
        if (paintingOf(c, 0) == 0) {
            return 0;
        }
        return chips.row[c].pores ? 1 : 2;
    }

    private int movedFrom(int c) {
        int own = chips.row[c].room;
        int room = NONE;
        int near = 0;
        for (int other = 0; other < chips.count; other++) {
            if (other == c) {
                continue;
            }
            lay(c, other);
            int cost = laying.leastCost();
            boolean tieAtHome = cost == near && chips.row[other].room == own;
            if (room == NONE || cost < near || tieAtHome) {
                room = chips.row[other].room;
                near = cost;
            }
        }
        return room;
    }

    /**
     * A coat can be the last one if its painting can be early enough and the next one's late enough:
     * all ahead of the next at their earliest and the others at their latest is always possible.
     */
    private int lastCoats(int c, int year) {
        int bits = years.latest[paintingOf(c, 0)] > year ? WITHOUT_COATS : 0;
        int size = chips.row[c].size;
        for (int k = 0; k < size; k++) {
            boolean there = years.earliest[paintingOf(c, k)] <= year;
            if (there && (k == size - 1 || years.latest[paintingOf(c, k + 1)] > year)) {
                bits |= 1 << k;
            }
        }
        return bits;
    }

    private static long oddsOfAll(int k, long found) {
        long odds = WHOLE_ODDS;
        for (int i = 0; i < k; i++) {
            odds = odds * found / WHOLE_ODDS;
        }
        return odds;
    }

    // ---- the kinds: each tells the trace that it was asked, and asks the one above once

    private int asCoat(int c, int k) {
        trace += 1;
        return chips.row[c].colours[k] + 1;
    }

    private int asWhole(int c, int k) {
        trace += 10;
        return asCoat(c, k) * Integer.bitCount(paintings.had[paintingOf(c, k)]);
    }

    private int asUnder(int c, int k) {
        trace += 100;
        return asCoat(c, k) + chips.row[c].dirts[k];
    }

    private int asPatch(int c, int k) {
        trace += 1000;
        return asWhole(c, k) - k;
    }

    private int asScraped(int c, int k) {
        trace += 10000;
        return 2 * asUnder(c, k);
    }

    private int asVarnish(int c, int k) {
        trace += 100000;
        return asCoat(c, k) + (chips.row[c].pores ? 20 : 0);
    }

    /** The bytes that were typed, and the tokens that they are. */
    private static final class Text {
        static final int END = 0, SEMICOLON = 1, NUMBER = 2, COLOUR = 3;
        static final int ROOM = 4, PORES = 5, STUFF = 6, ALIKE = 7, BILL = 8, WRONG = 9;
        private static final int NUMBER_MOST = 999;

        final byte[] bytes = new byte[TEXT_MOST];
        int length;
        /** What the last number or colour was that could stand. */
        int taken;

        private final int[] kinds = new int[TEXT_MOST + 1];
        private final int[] numbers = new int[TEXT_MOST + 1];
        private final int[] places = new int[TEXT_MOST + 1];
        private int tokens, at;

        boolean add(long v, int n) {
            if (n > TEXT_MOST - length) {
                return false;
            }
            for (int i = n - 1; i >= 0; i--) {
                bytes[length] = (byte) (v >>> 8 * i);
                length++;
            }
            return true;
        }

        /** Behind the last token comes an end, at the text's length: where a text that ends early fails. */
        void split() {
            tokens = 0;
            at = 0;
            for (int i = 0; i < length; i++) {
                if (beginsToken(i)) {
                    places[tokens] = i;
                    readToken(i);
                    tokens++;
                }
            }
            kinds[tokens] = END;
            places[tokens] = length;
        }

        boolean isAt(int kind) {
            return kinds[at] == kind;
        }

        /** Of the first token that could not be taken. */
        int fault() {
            return places[at];
        }

        boolean take(int kind) {
            if (kinds[at] != kind || at >= tokens) {
                return false;
            }
            taken = numbers[at];
            at++;
            return true;
        }

        boolean takeNumber(int low, int high) {
            return numbers[at] >= low && numbers[at] <= high && take(NUMBER);
        }

        boolean takeColourBut(int l) {
            return numbers[at] != l && take(COLOUR);
        }

        private boolean beginsToken(int i) {
            if (bytes[i] == ' ') {
                return false;
            }
            if (i == 0) {
                return true;
            }
            boolean sameWord = isLetter(bytes[i - 1]) && isLetter(bytes[i]);
            boolean sameNumber = isDigit(bytes[i - 1]) && isDigit(bytes[i]);
            return !sameWord && !sameNumber;
        }

        private void readToken(int i) {
            numbers[tokens] = 0;
            if (isDigit(bytes[i])) {
                readNumber(i);
            } else if (isLetter(bytes[i])) {
                readWord(i);
            } else {
                kinds[tokens] = bytes[i] == ';' ? SEMICOLON : WRONG;
            }
        }

        private void readNumber(int start) {
            int value = 0;
            int end = start;
            while (end < length && isDigit(bytes[end])) {
                // Once it is too large it stays so: more digits could wrap around.
                if (value <= NUMBER_MOST) {
                    value = 10 * value + bytes[end] - '0';
                }
                end++;
            }
            boolean zeroAhead = bytes[start] == '0' && end > start + 1;
            kinds[tokens] = value > NUMBER_MOST || zeroAhead ? WRONG : NUMBER;
            numbers[tokens] = value;
        }

        private void readWord(int start) {
            int end = start;
            while (end < length && isLetter(bytes[end])) {
                end++;
            }
            if (end > start + 1) {
                kinds[tokens] = kindOfWord(start, end);
                return;
            }
            int letter = bytes[start] - 'a';
            kinds[tokens] = letter < COLOURS ? COLOUR : WRONG;
            numbers[tokens] = letter;
        }

        private int kindOfWord(int start, int end) {
            if (isWord("room", start, end)) {
                return ROOM;
            }
            if (isWord("pores", start, end)) {
                return PORES;
            }
            if (isWord("stuff", start, end)) {
                return STUFF;
            }
            if (isWord("alike", start, end)) {
                return ALIKE;
            }
            return isWord("bill", start, end) ? BILL : WRONG;
        }

        private boolean isWord(String word, int start, int end) {
            if (end - start != word.length()) {
                return false;
            }
            for (int i = 0; i < word.length(); i++) {
                if (bytes[start + i] != word.charAt(i)) {
                    return false;
                }
            }
            return true;
        }

        private static boolean isDigit(int sign) {
            return sign >= '0' && sign <= '9';
        }

        private static boolean isLetter(int sign) {
            return sign >= 'a' && sign <= 'z';
        }
    }

    private static final class Chip {
        final int[] colours = new int[COATS_MOST];
        final int[] dirts = new int[COATS_MOST];
        int room, size;
        boolean pores;

        boolean read(Text text) {
            if (!text.take(Text.ROOM) || !text.takeNumber(0, ROOMS - 1)) {
                return false;
            }
            room = text.taken;
            pores = text.take(Text.PORES);
            return readCoats(text) && text.take(Text.SEMICOLON) && text.isAt(Text.END);
        }

        private boolean readCoats(Text text) {
            size = 0;
            while (size < COATS_MOST && text.take(Text.COLOUR)) {
                colours[size] = text.taken;
                if (!text.takeNumber(0, DIRT_MOST)) {
                    return false;
                }
                dirts[size] = text.taken;
                size++;
            }
            return size > 0;
        }

        void copy(Chip from) {
            room = from.room;
            size = from.size;
            pores = from.pores;
            System.arraycopy(from.colours, 0, colours, 0, COATS_MOST);
            System.arraycopy(from.dirts, 0, dirts, 0, COATS_MOST);
        }
    }

    /** Chips in their order: those that there are, and those that images keep. */
    private static final class Shelf {
        final Chip[] row = new Chip[CHIPS_MOST];
        int count;
        boolean kept;

        Shelf() {
            for (int c = 0; c < CHIPS_MOST; c++) {
                row[c] = new Chip();
            }
        }

        /** The chip taken out goes behind the others, where the next text may fill it again. */
        void takeOut(int c) {
            Chip out = row[c];
            for (int i = c; i + 1 < count; i++) {
                row[i] = row[i + 1];
            }
            count--;
            row[count] = out;
        }

        void copy(Shelf from) {
            count = from.count;
            for (int c = 0; c < count; c++) {
                row[c].copy(from.row[c]);
            }
        }

        int coats() {
            int sum = 0;
            for (int c = 0; c < count; c++) {
                sum += row[c].size;
            }
            return sum;
        }

        int inRoom(int room) {
            int bits = 0;
            for (int c = 0; c < count; c++) {
                if (row[c].room == room) {
                    bits |= 1 << c;
                }
            }
            return bits;
        }
    }

    private static final class Book {
        final int[] from = new int[COLOURS];
        final int[] until = new int[COLOURS];
        final int[] alike = new int[COLOURS];
        final int[] billYears = new int[BILLS_MOST];
        final int[] billColours = new int[BILLS_MOST];
        int bills, items;

        Book() {
            empty();
        }

        private void empty() {
            Arrays.fill(from, 0);
            Arrays.fill(until, LAST_YEAR);
            Arrays.fill(alike, 0);
            bills = 0;
            items = 0;
        }

        boolean read(Text text) {
            empty();
            // An item has a byte at least, so a text ends within this bound.
            while (items < TEXT_MOST && !text.isAt(Text.END)) {
                if (!readItem(text) || !text.take(Text.SEMICOLON)) {
                    return false;
                }
                items++;
            }
            return text.isAt(Text.END);
        }

        private boolean readItem(Text text) {
            if (text.take(Text.STUFF)) {
                return readStuff(text);
            }
            if (text.take(Text.ALIKE)) {
                return readAlike(text);
            }
            // A ninth bill can't stand there from its first word on.
            return bills < BILLS_MOST && text.take(Text.BILL) && readBill(text);
        }

        private boolean readStuff(Text text) {
            if (!text.take(Text.COLOUR)) {
                return false;
            }
            int l = text.taken;
            if (!text.takeNumber(0, LAST_YEAR)) {
                return false;
            }
            int first = text.taken;
            if (!text.takeNumber(first, LAST_YEAR)) {
                return false;
            }
            from[l] = first;
            until[l] = text.taken;
            return true;
        }

        private boolean readAlike(Text text) {
            if (!text.take(Text.COLOUR)) {
                return false;
            }
            int l = text.taken;
            if (!text.takeColourBut(l)) {
                return false;
            }
            alike[l] |= 1 << text.taken;
            alike[text.taken] |= 1 << l;
            return true;
        }

        private boolean readBill(Text text) {
            if (!text.takeNumber(0, LAST_YEAR)) {
                return false;
            }
            billYears[bills] = text.taken;
            if (!text.take(Text.COLOUR)) {
                return false;
            }
            billColours[bills] = text.taken;
            bills++;
            return true;
        }
    }

    /** Two rows laid together: for what is left of both, the least cost and in how many ways. */
    private static final class Laying {
        private static final int SIDE = COATS_MOST + 1;

        private final int[] costs = new int[SIDE * SIDE];
        private final long[] counts = new long[SIDE * SIDE];
        private Chip one, other;
        private int[] same;
        private int miss, soil;

        void lay(Chip theOne, Chip theOther, int[] theSame, int theMiss, int theSoil) {
            one = theOne;
            other = theOther;
            same = theSame;
            miss = theMiss;
            soil = theSoil;
            for (int i = one.size; i >= 0; i--) {
                for (int j = other.size; j >= 0; j--) {
                    fill(i, j);
                }
            }
        }

        int leastCost() {
            return costs[0];
        }

        long leastWays() {
            return counts[0];
        }

        /** Each coat of the one row takes the nearest coat that still comes out at the least cost. */
        int beside(int k) {
            int free = 0;
            int partner = NONE;
            for (int i = 0; i <= k; i++) {
                partner = nearest(i, free);
                if (partner != NONE) {
                    free = partner + 1;
                }
            }
            return partner;
        }

        private int nearest(int i, int free) {
            for (int j = free; j < other.size; j++) {
                if (isSame(i, j) && costBeside(i, j, free) == costs[i * SIDE + free]) {
                    return j;
                }
            }
            return NONE;
        }

        /** Coat i is beside one coat from j on or beside none, so that no way is counted twice. */
        private void fill(int i, int j) {
            int here = i * SIDE + j;
            if (i == one.size) {
                costs[here] = miss * (other.size - j);
                counts[here] = 1;
                return;
            }
            int best = miss + costs[here + SIDE];
            long ways = counts[here + SIDE];
            for (int at = j; at < other.size; at++) {
                if (!isSame(i, at)) {
                    continue;
                }
                int cost = costBeside(i, at, j);
                if (cost < best) {
                    best = cost;
                    ways = 0;
                }
                if (cost == best) {
                    ways += counts[(i + 1) * SIDE + at + 1];
                }
            }
            costs[here] = best;
            counts[here] = ways;
        }

        private boolean isSame(int i, int j) {
            return (same[one.colours[i]] >> other.colours[j] & 1) != 0;
        }

        /** Of all from coat i and from coat free on, if i is beside j: those from free to j are missed. */
        private int costBeside(int i, int j, int free) {
            int dirt = Math.abs(one.dirts[i] - other.dirts[j]);
            return miss * (j - free) + soil * dirt + costs[(i + 1) * SIDE + j + 1];
        }
    }

    /**
     * The fewest paintings. A state is how many coats each chip has already, as one number; a painting
     * takes every chip on whose next coat it can be, since having more coats never asks for more.
     */
    private static final class Paintings {
        private static final int STATES = (COATS_MOST + 1) * (COATS_MOST + 1) * (COATS_MOST + 1) * (COATS_MOST + 1);
        private static final int STATES_AT_FIRST = 64;

        int count;
        final int[] colours = new int[PAINTINGS_MOST];
        final int[] had = new int[PAINTINGS_MOST];
        final int[] dirts = new int[PAINTINGS_MOST];
        final int[] ofCoat = new int[PAINTINGS_MOST];

        /** How many paintings are left at the fewest, state by state. */
        private byte[] left = new byte[STATES_AT_FIRST];
        private final int[] strides = new int[CHIPS_MOST];
        private final int[] places = new int[CHIPS_MOST];
        private final int[] wants = new int[CHIPS_MOST];
        /** Colours that a chip other than the first wants, with how far they take those chips. */
        private final int[] servingColours = new int[COLOURS];
        private final int[] servingStrides = new int[COLOURS];
        private int serving;
        private Shelf chips;
        private int[] same;

        void find(Shelf theChips, int[] theSame) {
            chips = theChips;
            same = theSame;
            int states = 1;
            for (int c = 0; c < chips.count; c++) {
                strides[c] = states;
                states *= chips.row[c].size + 1;
            }
            int width = chips.count > 0 ? chips.row[0].size + 1 : 1;
            count = 0;
            if (states > STATES || width < 1 || width > states) {
                return;
            }
            makeRoom(states);
            for (int base = states - width; base >= 0; base -= width) {
                look(base);
                findServing();
                fillRow(base, width);
            }
            walk();
        }

        /** Few objects ever need the whole table, so it grows, by doubling: all its sizes together stay small. */
        private void makeRoom(int states) {
            if (states > left.length) {
                left = new byte[Math.min(STATES, Math.max(states, 2 * left.length))];
            }
        }

        int notIn(int bits) {
            int sum = 0;
            for (int k = 0; k < count; k++) {
                if ((had[k] & bits) == 0) {
                    sum++;
                }
            }
            return sum;
        }

        private void findServing() {
            serving = 0;
            for (int l = 0; l < COLOURS; l++) {
                int stride = strideOf(l, 1);
                if (stride > 0) {
                    servingColours[serving] = l;
                    servingStrides[serving] = stride;
                    serving++;
                }
            }
        }

        /** A row of states that differ in the first chip alone, so that what the others want is looked at once. */
        private void fillRow(int base, int width) {
            for (int place = width - 1; place >= 0; place--) {
                int here = base + place;
                boolean open = place < width - 1;
                int want = open ? 1 << chips.row[0].colours[place] : 0;
                // The first chip alone: others that wait meanwhile never make it fewer, so they need no look.
                int best = open ? left[here + 1] : PAINTINGS_MOST;
                for (int i = 0; i < serving; i++) {
                    int stride = servingStrides[i] + ((same[servingColours[i]] & want) != 0 ? 1 : 0);
                    if (left[here + stride] < best) {
                        best = left[here + stride];
                    }
                }
                left[here] = open || serving > 0 ? (byte) (best + 1) : 0;
            }
        }

        private void walk() {
            int s = 0;
            while (count < PAINTINGS_MOST && left[s] > 0) {
                look(s);
                int l = firstColour(s);
                colours[count] = l;
                paint(l);
                count++;
                s += strideOf(l, 0);
            }
        }

        private int firstColour(int s) {
            for (int l = 0; l < COLOURS; l++) {
                int stride = strideOf(l, 0);
                if (stride > 0 && left[s + stride] == left[s] - 1) {
                    return l;
                }
            }
            return 0;
        }

        private void paint(int l) {
            had[count] = 0;
            dirts[count] = 0;
            for (int c = 0; c < chips.count; c++) {
                if ((same[l] & wants[c]) != 0) {
                    had[count] |= 1 << c;
                    dirts[count] = Math.max(dirts[count], chips.row[c].dirts[places[c]]);
                    ofCoat[c * COATS_MOST + places[c]] = count;
                }
            }
        }

        /** Which colour each chip wants next in a state, as bits (none, when it has all its coats). */
        private void look(int s) {
            int rest = s;
            for (int c = 0; c < chips.count; c++) {
                Chip chip = chips.row[c];
                int base = Math.max(1, chip.size + 1);
                places[c] = rest % base;
                rest = rest / base;
                wants[c] = places[c] < chip.size ? 1 << chip.colours[places[c]] : 0;
            }
        }

        /** How far a painting takes the chips from one on, in the state last looked at. */
        private int strideOf(int l, int fromChip) {
            int sum = 0;
            for (int c = fromChip; c < chips.count; c++) {
                if ((same[l] & wants[c]) != 0) {
                    sum += strides[c];
                }
            }
            return sum;
        }
    }

    /** In which years the paintings can be, and which bills can be for them. */
    private static final class Years {
        private static final int SIDE = BILLS_MOST + 1;

        boolean can;
        final int[] earliest = new int[PAINTINGS_MOST];
        final int[] latest = new int[PAINTINGS_MOST];
        int matched;
        /** Of each painting 0, or its bill and 1. */
        final int[] billOf = new int[PAINTINGS_MOST];
        /** The most bills from a painting on, when the last one used is that bill less 1 (0: none yet). */
        private final int[] most = new int[(PAINTINGS_MOST + 1) * SIDE];

        void find(Paintings paintings, Book book, int wait) {
            int count = paintings.count;
            int bound = 0;
            can = true;
            for (int k = 0; k < count; k++) {
                int l = paintings.colours[k];
                earliest[k] = Math.max(bound, book.from[l]);
                can = can && earliest[k] <= book.until[l];
                bound = earliest[k] + wait * paintings.dirts[k] + 1;
            }
            bound = LAST_YEAR;
            for (int k = count - 1; k >= 0; k--) {
                latest[k] = Math.min(bound, book.until[paintings.colours[k]]);
                bound = latest[k] - 1 - (k > 0 ? wait * paintings.dirts[k - 1] : 0);
            }
        }

        void match(Paintings paintings, Book book) {
            int count = paintings.count;
            for (int last = 0; last < SIDE; last++) {
                most[count * SIDE + last] = 0;
            }
            for (int k = count - 1; k >= 0; k--) {
                for (int last = 0; last <= book.bills; last++) {
                    most[k * SIDE + last] = mostFrom(k, last, paintings.colours[k], book);
                }
            }
            int last = 0;
            for (int k = 0; k < count; k++) {
                billOf[k] = leastBill(k, last, paintings.colours[k], book);
                last = billOf[k] == 0 ? last : billOf[k];
            }
            matched = count == 0 ? 0 : most[0];
        }

        private int mostFrom(int k, int last, int colour, Book book) {
            int best = most[(k + 1) * SIDE + last];
            for (int bill = 1; bill <= book.bills; bill++) {
                if (fits(k, last, bill, colour, book)) {
                    best = Math.max(best, 1 + most[(k + 1) * SIDE + bill]);
                }
            }
            return best;
        }

        private int leastBill(int k, int last, int colour, Book book) {
            int due = most[k * SIDE + last];
            if (most[(k + 1) * SIDE + last] == due) {
                return 0;
            }
            for (int bill = 1; bill <= book.bills; bill++) {
                if (fits(k, last, bill, colour, book) && 1 + most[(k + 1) * SIDE + bill] == due) {
                    return bill;
                }
            }
            return 0;
        }

        private boolean fits(int k, int last, int bill, int colour, Book book) {
            int year = book.billYears[bill - 1];
            boolean later = last == 0 || year > book.billYears[last - 1];
            return can && later && book.billColours[bill - 1] == colour && year >= earliest[k] && year <= latest[k];
        }
    }
}
