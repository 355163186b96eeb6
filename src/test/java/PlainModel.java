import java.math.BigInteger;
import java.util.ArrayList;
import java.util.Arrays;
import java.util.HashMap;
import java.util.List;
import java.util.Map;

/**
 * The document once more, in the slowest and plainest way and by other means than CoatRows: ways of laying are all
 * written out, years are all tried. What both answer is held against each other.
 */
final class PlainModel {
    static final int BAD = -1, STATE = -2, FULL = -3, NONE = -9, NO = -1000000;

    static final class Fault extends Exception {
        private static final long serialVersionUID = 1L;
        final int place;

        Fault(int place) {
            this.place = place;
        }
    }

    record Token(String sign, int place) { }

    record Coat(int colour, int dirt) { }

    record Chip(int room, boolean pores, List<Coat> coats) { }

    record Bill(int year, int colour) { }

    /** A row of bills and how many there are in it. */
    record Bills(int many, List<Integer> row) { }

    private final StringBuilder text = new StringBuilder();
    private List<Chip> chips = new ArrayList<>();
    private final List<List<Chip>> images = new ArrayList<>(Arrays.asList(null, null));
    private int[][] sold = unsold();
    private int[] alike = new int[12];
    private List<Bill> bills = new ArrayList<>();
    private final int[] tunes = {10, 1, 0, 2, 3};
    private long trace = 0;

    private static int[][] unsold() {
        int[][] years = new int[12][];
        for (int l = 0; l < 12; l++) {
            years[l] = new int[] {0, 999};
        }
        return years;
    }

    // ---- texts

    int type(long v, int n) {
        if (n < 1 || n > 8) {
            return BAD;
        }
        if (text.length() + n > 400) {
            return FULL;
        }
        byte[] all = java.nio.ByteBuffer.allocate(8).putLong(v).array();
        for (int i = 8 - n; i < 8; i++) {
            text.append((char) (all[i] & 255));
        }
        return text.length();
    }

    int clear() {
        int had = text.length();
        text.setLength(0);
        return had;
    }

    /** Tokens are told apart by a pattern; whatever no pattern takes is a token of one sign that is never asked for. */
    private List<Token> tokens() {
        List<Token> all = new ArrayList<>();
        var matcher = java.util.regex.Pattern.compile("[a-z]+|[0-9]+|[^ ]", java.util.regex.Pattern.DOTALL).matcher(text);
        while (matcher.find()) {
            all.add(new Token(matcher.group(), matcher.start()));
        }
        all.add(new Token("", text.length()));
        return all;
    }

    private static int word(List<Token> tokens, String pattern) throws Fault {
        Token first = tokens.get(0);
        if (first.sign.isEmpty() || !first.sign.matches(pattern)) {
            throw new Fault(first.place);
        }
        tokens.remove(0);
        return first.sign.charAt(0) - 'a';
    }

    private static int number(List<Token> tokens, int low, int high) throws Fault {
        Token first = tokens.get(0);
        if (!first.sign.matches("0|[1-9][0-9]{0,2}")) {
            throw new Fault(first.place);
        }
        int value = Integer.parseInt(first.sign);
        if (value < low || value > high) {
            throw new Fault(first.place);
        }
        tokens.remove(0);
        return value;
    }

    int chip() {
        if (chips.size() == 4) {
            return FULL;
        }
        try {
            List<Token> rest = tokens();
            word(rest, "room");
            int room = number(rest, 0, 5);
            boolean pores = rest.get(0).sign.equals("pores");
            if (pores) {
                rest.remove(0);
            }
            List<Coat> coats = new ArrayList<>();
            while (coats.isEmpty() || !rest.get(0).sign.equals(";")) {
                if (coats.size() == 10) {
                    throw new Fault(rest.get(0).place);
                }
                int colour = word(rest, "[a-l]");
                coats.add(new Coat(colour, number(rest, 0, 9)));
            }
            rest.remove(0);
            if (!rest.get(0).sign.isEmpty()) {
                throw new Fault(rest.get(0).place);
            }
            chips.add(new Chip(room, pores, coats));
            text.setLength(0);
            return chips.size() - 1;
        } catch (Fault fault) {
            return -10 - fault.place;
        }
    }

    int book() {
        int[][] newSold = unsold();
        int[] newAlike = new int[12];
        List<Bill> newBills = new ArrayList<>();
        int items = 0;
        try {
            List<Token> rest = tokens();
            while (!rest.get(0).sign.isEmpty()) {
                String kind = rest.get(0).sign;
                if (kind.equals("stuff")) {
                    rest.remove(0);
                    int l = word(rest, "[a-l]");
                    int y = number(rest, 0, 999);
                    newSold[l] = new int[] {y, number(rest, y, 999)};
                } else if (kind.equals("alike")) {
                    rest.remove(0);
                    int l = word(rest, "[a-l]");
                    int place = rest.get(0).place;
                    int m = word(rest, "[a-l]");
                    if (l == m) {
                        throw new Fault(place);
                    }
                    newAlike[l] |= 1 << m;
                    newAlike[m] |= 1 << l;
                } else if (kind.equals("bill") && newBills.size() < 8) {
                    rest.remove(0);
                    int y = number(rest, 0, 999);
                    newBills.add(new Bill(y, word(rest, "[a-l]")));
                } else {
                    throw new Fault(rest.get(0).place);
                }
                word(rest, ";");
                items++;
            }
        } catch (Fault fault) {
            return -10 - fault.place;
        }
        sold = newSold;
        alike = newAlike;
        bills = newBills;
        text.setLength(0);
        return items;
    }

    int drop(int c) {
        if (c < 0 || c >= chips.size()) {
            return BAD;
        }
        chips.remove(c);
        return chips.size();
    }

    private boolean isCoat(int c, int k) {
        return c >= 0 && c < chips.size() && k >= 0 && k < chips.get(c).coats.size();
    }

    int about(int c, int what) {
        if (c < 0 || c >= chips.size() || what < 0 || what > 2) {
            return BAD;
        }
        Chip chip = chips.get(c);
        return new int[] {chip.room, chip.pores ? 1 : 0, chip.coats.size()}[what];
    }

    int coat(int c, int k, int what) {
        if (!isCoat(c, k) || what < 0 || what > 2) {
            return BAD;
        }
        Coat coat = chips.get(c).coats.get(k);
        return what == 0 ? coat.colour : what == 1 ? coat.dirt : has(c, paintings()).get(k);
    }

    int colour(int l, int what) {
        if (l < 0 || l > 11 || what < 0 || what > 2) {
            return BAD;
        }
        return what == 2 ? alike[l] : sold[l][what];
    }

    int tune(int what, int v) {
        int[][] bounds = {{1, 50}, {0, 9}, {0, 1}, {0, 20}, {0, 9}};
        if (what < 0 || what > 4 || v < bounds[what][0] || v > bounds[what][1]) {
            return BAD;
        }
        int was = tunes[what];
        tunes[what] = v;
        return was;
    }

    private boolean same(int l, int m) {
        return l == m || tunes[2] == 0 && (alike[l] >> m & 1) == 1;
    }

    // ---- two rows

    /** Every way to lay two rows together: for each coat of the one its partner, or 10 beside none. */
    private void layings(List<Coat> one, List<Coat> other, List<Integer> soFar, int free, List<int[]> all) {
        int i = soFar.size();
        if (i == one.size()) {
            all.add(soFar.stream().mapToInt(Integer::intValue).toArray());
            return;
        }
        for (int j = free; j <= 10; j++) {
            boolean beside = j < other.size() && same(one.get(i).colour, other.get(j).colour);
            if (beside || j == 10) {
                soFar.add(j);
                layings(one, other, soFar, beside ? j + 1 : free, all);
                soFar.remove(soFar.size() - 1);
            }
        }
    }

    private int cost(List<Coat> one, List<Coat> other, int[] laying) {
        int cost = 0;
        int beside = 0;
        for (int i = 0; i < laying.length; i++) {
            if (laying[i] == 10) {
                cost += tunes[0];
            } else {
                beside++;
                cost += tunes[1] * Math.abs(one.get(i).dirt - other.get(laying[i]).dirt);
            }
        }
        return cost + tunes[0] * (other.size() - beside);
    }

    private List<int[]> cheapest(int one, int other) {
        List<Coat> a = chips.get(one).coats;
        List<Coat> b = chips.get(other).coats;
        List<int[]> all = new ArrayList<>();
        layings(a, b, new ArrayList<>(), 0, all);
        int least = all.stream().mapToInt(x -> cost(a, b, x)).min().getAsInt();
        all.removeIf(x -> cost(a, b, x) != least);
        all.sort(Arrays::compare);
        return all;
    }

    private boolean areTwo(int one, int other) {
        return one >= 0 && other >= 0 && one < chips.size() && other < chips.size() && one != other;
    }

    int least(int one, int other) {
        if (!areTwo(one, other)) {
            return BAD;
        }
        return cost(chips.get(one).coats, chips.get(other).coats, cheapest(one, other).get(0));
    }

    long ways(int one, int other) {
        return areTwo(one, other) ? cheapest(one, other).size() : BAD;
    }

    int laid(int one, int other, int k) {
        if (!areTwo(one, other) || !isCoat(one, k)) {
            return BAD;
        }
        int beside = cheapest(one, other).get(0)[k];
        return beside == 10 ? NONE : beside;
    }

    // ---- paintings

    private final Map<String, List<Integer>> rowsKnown = new HashMap<>();

    /** For what is left of each chip (told as a text) the least of the shortest rows; not greedy: chips may wait. */
    private List<Integer> shortest(List<List<Coat>> left, Map<String, List<Integer>> known) {
        if (left.stream().allMatch(List::isEmpty)) {
            return List.of();
        }
        String key = left.stream().map(x -> "" + x.size()).reduce("", (x, y) -> x + "," + y);
        if (known.containsKey(key)) {
            return known.get(key);
        }
        List<Integer> best = null;
        for (int l = 0; l < 12; l++) {
            for (int group = 1; group < 1 << left.size(); group++) {
                List<List<Coat>> then = advance(left, l, group);
                if (then == null) {
                    continue;
                }
                List<Integer> row = new ArrayList<>(List.of(l));
                row.addAll(shortest(then, known));
                if (best == null || row.size() < best.size() || row.size() == best.size() && compare(row, best) < 0) {
                    best = row;
                }
            }
        }
        known.put(key, best);
        return best;
    }

    private List<List<Coat>> advance(List<List<Coat>> left, int l, int group) {
        List<List<Coat>> then = new ArrayList<>();
        for (int c = 0; c < left.size(); c++) {
            List<Coat> mine = left.get(c);
            boolean goes = (group >> c & 1) == 1;
            if (goes && (mine.isEmpty() || !same(l, mine.get(0).colour))) {
                return null;
            }
            then.add(goes ? mine.subList(1, mine.size()) : mine);
        }
        return then;
    }

    private static int compare(List<Integer> one, List<Integer> other) {
        for (int i = 0; i < one.size() && i < other.size(); i++) {
            if (!one.get(i).equals(other.get(i))) {
                return one.get(i) - other.get(i);
            }
        }
        return one.size() - other.size();
    }

    private List<Integer> paintings() {
        String key = chips + Arrays.toString(alike) + tunes[2];
        if (!rowsKnown.containsKey(key)) {
            rowsKnown.clear();
            rowsKnown.put(key, shortest(chips.stream().map(Chip::coats).toList(), new HashMap<>()));
        }
        return rowsKnown.get(key);
    }

    /** Which painting each coat of a chip is. */
    private List<Integer> has(int c, List<Integer> row) {
        List<Integer> places = new ArrayList<>();
        for (Coat coat : chips.get(c).coats) {
            int k = places.isEmpty() ? 0 : places.get(places.size() - 1) + 1;
            while (!same(row.get(k), coat.colour)) {
                k++;
            }
            places.add(k);
        }
        return places;
    }

    int painting(int k) {
        List<Integer> row = paintings();
        return k == -1 ? row.size() : k < 0 || k >= row.size() ? BAD : row.get(k);
    }

    int had(int k) {
        List<Integer> row = paintings();
        if (k < 0 || k >= row.size()) {
            return BAD;
        }
        int bits = 0;
        for (int c = 0; c < chips.size(); c++) {
            bits |= has(c, row).contains(k) ? 1 << c : 0;
        }
        return bits;
    }

    int face(int c, int what) {
        if (c < 0 || c >= chips.size() || what < 0 || what > 3) {
            return BAD;
        }
        List<Integer> mine = has(c, paintings());
        if (what == 0) {
            int missed = 0;
            for (int k = mine.get(0); k < mine.get(mine.size() - 1); k++) {
                missed += mine.contains(k) ? 0 : 1;
            }
            return missed;
        }
        if (what == 1) {
            return mine.get(0);
        }
        if (what == 2) {
            return mine.get(0) == 0 ? 0 : chips.get(c).pores ? 1 : 2;
        }
        return moved(c);
    }

    private int moved(int c) {
        List<Integer> near = new ArrayList<>();
        for (int other = 0; other < chips.size(); other++) {
            if (other != c) {
                int cost = least(c, other);
                if (!near.isEmpty() && cost < least(c, near.get(0))) {
                    near.clear();
                }
                if (near.isEmpty() || cost == least(c, near.get(0))) {
                    near.add(other);
                }
            }
        }
        int own = chips.get(c).room;
        if (near.isEmpty()) {
            return NONE;
        }
        return near.stream().anyMatch(x -> chips.get(x).room == own) ? own : chips.get(near.get(0)).room;
    }

    // ---- years

    /** Whether years can be found, if each painting's lie within bounds of its own (lows and highs). */
    private boolean can(List<Integer> row, int[] lows, int[] highs) {
        int bound = 0;
        for (int k = 0; k < row.size(); k++) {
            int year = Math.max(bound, Math.max(lows[k], sold[row.get(k)][0]));
            if (year > Math.min(highs[k], sold[row.get(k)][1])) {
                return false;
            }
            int dirt = 0;
            for (int c = 0; c < chips.size(); c++) {
                int at = has(c, row).indexOf(k);
                dirt = at < 0 ? dirt : Math.max(dirt, chips.get(c).coats.get(at).dirt);
            }
            bound = year + tunes[3] * dirt + 1;
        }
        return true;
    }

    private boolean canWith(int k, int low, int high, int m, int lowM, int highM) {
        List<Integer> row = paintings();
        int[] lows = new int[row.size()];
        int[] highs = new int[row.size()];
        Arrays.fill(highs, 999);
        if (k >= 0) {
            lows[k] = low;
            highs[k] = high;
        }
        if (m >= 0) {
            lows[m] = lowM;
            highs[m] = highM;
        }
        return can(row, lows, highs);
    }

    int span(int k, int what) {
        if (k < 0 || k >= paintings().size() || what < 0 || what > 1) {
            return BAD;
        }
        for (int i = 0; i <= 999; i++) {
            int year = what == 0 ? i : 999 - i;
            if (canWith(k, year, year, -1, 0, 0)) {
                return year;
            }
        }
        return NONE;
    }

    int day(int c, int year) {
        if (c < 0 || c >= chips.size() || year < 0 || year > 999) {
            return BAD;
        }
        List<Integer> mine = has(c, paintings());
        int bits = canWith(mine.get(0), year + 1, 999, -1, 0, 0) ? 1 << 10 : 0;
        for (int k = 0; k < mine.size(); k++) {
            int after = k + 1 < mine.size() ? mine.get(k + 1) : -1;
            bits |= canWith(mine.get(k), 0, year, after, year + 1, 999) ? 1 << k : 0;
        }
        return bits;
    }

    int bill(int b, int what) {
        if (b < 0 || b >= bills.size() || what < 0 || what > 1) {
            return BAD;
        }
        return what == 0 ? bills.get(b).year : bills.get(b).colour;
    }

    private Bills match(int k, int year, int[][] spans, Map<Integer, Bills> known) {
        List<Integer> row = paintings();
        if (k == row.size()) {
            return new Bills(0, List.of());
        }
        int key = k * 1001 + year + 1;
        if (known.containsKey(key)) {
            return known.get(key);
        }
        Bills best = new Bills(-1, List.of());
        for (int b = 0; b <= bills.size(); b++) {
            Bill bill = b == 0 ? null : bills.get(b - 1);
            boolean fits = bill == null || bill.colour == row.get(k) && bill.year > year
                && bill.year >= spans[k][0] && bill.year <= spans[k][1];
            if (fits) {
                Bills rest = match(k + 1, bill == null ? year : bill.year, spans, known);
                int many = rest.many + (bill == null ? 0 : 1);
                List<Integer> all = new ArrayList<>(List.of(b));
                all.addAll(rest.row);
                if (many > best.many || many == best.many && compare(all, best.row) < 0) {
                    best = new Bills(many, all);
                }
            }
        }
        known.put(key, best);
        return best;
    }

    int billed(int k) {
        int many = paintings().size();
        if (k < -1 || k >= many) {
            return BAD;
        }
        int[][] spans = new int[many][];
        for (int i = 0; i < many; i++) {
            spans[i] = new int[] {span(i, 0), span(i, 1)};
        }
        Bills best = match(0, -1, spans, new HashMap<>());
        return k == -1 ? best.many : best.row.get(k);
    }

    // ---- how many, where

    int enough(int k, int odds) {
        if (k < 1 || k > 10 || odds < 0 || odds > 100) {
            return BAD;
        }
        BigInteger million = BigInteger.valueOf(1000000);
        for (int n = 1; n <= 9; n++) {
            BigInteger tens = BigInteger.TEN.pow(n);
            BigInteger found = million.multiply(tens.subtract(BigInteger.valueOf(tunes[4]).pow(n))).divide(tens);
            BigInteger all = million;
            for (int i = 0; i < k; i++) {
                all = all.multiply(found).divide(million);
            }
            if (all.multiply(BigInteger.valueOf(100)).compareTo(million.multiply(BigInteger.valueOf(odds))) >= 0) {
                return n;
            }
        }
        return NONE;
    }

    int next() {
        List<Integer> row = paintings();
        int best = NONE;
        long most = -1;
        for (int room = 5; room >= 0; room--) {
            List<Integer> seen = new ArrayList<>();
            boolean any = false;
            for (int c = 0; c < chips.size(); c++) {
                if (chips.get(c).room == room) {
                    any = true;
                    seen.addAll(has(c, row));
                }
            }
            long unseen = row.size() - seen.stream().distinct().count();
            if (any && unseen >= most) {
                most = unseen;
                best = room;
            }
        }
        return best;
    }

    // ---- kinds, images

    int rank(int kind, int c, int k) {
        if (!isCoat(c, k) || kind < 0 || kind > 5) {
            return NO;
        }
        trace += new int[] {1, 10, 100, 1000, 10000, 100000}[kind];
        Chip chip = chips.get(c);
        if (kind == 0) {
            return chip.coats.get(k).colour + 1;
        }
        int up = rank(new int[] {-1, 0, 0, 1, 2, 0}[kind], c, k);
        switch (kind) {
            case 1: return up * Integer.bitCount(had(coat(c, k, 2)));
            case 2: return up + chip.coats.get(k).dirt;
            case 3: return up - k;
            case 4: return up + up;
            default: return chip.pores ? up + 20 : up;
        }
    }

    int keep(int image) {
        if (image != 0 && image != 1) {
            return BAD;
        }
        images.set(image, new ArrayList<>(chips));
        return chips.size();
    }

    int back(int image) {
        if (image != 0 && image != 1) {
            return BAD;
        }
        if (images.get(image) == null) {
            return STATE;
        }
        chips = new ArrayList<>(images.get(image));
        return chips.size();
    }

    int count(int what) {
        switch (what) {
            case 0: return chips.size();
            case 1: return chips.stream().mapToInt(x -> x.coats.size()).sum();
            case 2: return bills.size();
            case 3: return text.length();
            default: return BAD;
        }
    }

    long trace() {
        return trace;
    }
}
