import java.math.BigInteger;
import java.util.ArrayList;
import java.util.HashMap;
import java.util.List;
import java.util.Map;
import java.util.regex.Matcher;
import java.util.regex.Pattern;

/**
 * The document once more, written apart from BreadString: texts, lists and a day book of every hour, with no eye to
 * cost.
 */
final class Model {
    static final int NONE = -1, BAD = -2, NOT = -3, FULL = -4;

    private static final String FLOOR = "[pmlc][0-9][a-h]";
    private static final String BASKET = "[0-2][0-9][0-9][0-9][a-h]{1,3}";
    private static final Pattern[] WELL = {
        Pattern.compile(FLOOR + "(;" + FLOOR + "){0,8}"), Pattern.compile(BASKET + "(;" + BASKET + "){0,7}")};
    private static final Pattern[] GOES_ON = {
        Pattern.compile(FLOOR + "(;" + FLOOR + "){0,8};?"), Pattern.compile(BASKET + "(;" + BASKET + "){0,7};?")};
    private static final int[] MOST_BYTES = {35, 63};

    /** A floor as told, or as it is in place of that. */
    record Floor(char sort, int bite, char word) {
    }

    /** A basket as told, or as it is in place of that. */
    record Basket(int hour, int load, String note) {
    }

    /** How a basket stands behind the bites of an hour. */
    record Stand(int floor, int load, String note, boolean tangled) {
    }

    /** One bite. */
    record Bite(int hour, int floor, int much) {
    }

    /** What came of all hours. */
    static final class Book {
        final List<List<Stand>> hours = new ArrayList<>();
        final List<Bite> bites = new ArrayList<>();
        final List<Stand> last = new ArrayList<>();
        final List<Integer> up = new ArrayList<>();

        int loadUp() {
            int sum = 0;
            for (int b = 0; b < up.size(); b++) {
                sum += up.get(b) == NONE ? 0 : last.get(b).load();
            }
            return sum;
        }

        int letter(int b, int i) {
            String note = last.get(b).note();
            return i < note.length() ? note.charAt(i) - 'a' : NONE;
        }
    }

    private final StringBuilder[] texts = {new StringBuilder(), new StringBuilder()};
    private final int[] settings = {3, 4};
    private final List<Integer> winds = new ArrayList<>();
    private final List<Integer> sundays = new ArrayList<>();
    private final List<int[]> seen = new ArrayList<>();
    private final Object[] sheets = new Object[4];
    private int finding = 0;

    // ---- texts

    long type(int text, int b) {
        if (text < 0 || text > 1 || b < 0 || b > 255) {
            return BAD;
        }
        if (texts[text].length() == MOST_BYTES[text]) {
            return FULL;
        }
        return texts[text].append((char) b).length();
    }

    long wipe(int text) {
        if (text < 0 || text > 1) {
            return BAD;
        }
        int had = texts[text].length();
        texts[text].setLength(0);
        return had;
    }

    long undo(int text) {
        if (text < 0 || text > 1) {
            return BAD;
        }
        if (texts[text].length() == 0) {
            return NOT;
        }
        texts[text].deleteCharAt(texts[text].length() - 1);
        return texts[text].length();
    }

    long fault(int text) {
        if (text < 0 || text > 1) {
            return BAD;
        }
        String all = texts[text].toString();
        if (all.isEmpty() || WELL[text].matcher(all).matches()) {
            return NONE;
        }
        for (int end = 1; end <= all.length(); end++) {
            Matcher m = GOES_ON[text].matcher(all.substring(0, end));
            if (!m.matches() && !m.hitEnd()) {
                return end - 1;
            }
        }
        return all.length();
    }

    private List<Floor> floors() {
        List<Floor> all = new ArrayList<>();
        if (texts[0].length() > 0 && fault(0) == NONE) {
            for (String f : texts[0].toString().split(";")) {
                all.add(new Floor(f.charAt(0), f.charAt(1) - '0', f.charAt(2)));
            }
        }
        return all;
    }

    private List<Basket> baskets() {
        List<Basket> all = new ArrayList<>();
        if (texts[1].length() > 0 && fault(1) == NONE) {
            for (String b : texts[1].toString().split(";")) {
                int hour = Integer.parseInt(b.substring(0, 2));
                all.add(new Basket(hour, Integer.parseInt(b.substring(2, 4)), b.substring(4)));
            }
        }
        return all;
    }

    private boolean noFloor(int f) {
        return f < 0 || f >= floors().size();
    }

    private boolean noBasket(int b) {
        return b < 0 || b >= baskets().size();
    }

    long floor(int f, int what) {
        if (noFloor(f) || what < 0 || what > 2) {
            return BAD;
        }
        Floor floor = floors().get(f);
        return what == 0 ? "pmlc".indexOf(floor.sort()) : what == 1 ? floor.bite() : floor.word() - 'a';
    }

    long basket(int b, int what) {
        if (noBasket(b) || what < 0 || what > 5) {
            return BAD;
        }
        Basket basket = baskets().get(b);
        int letters = basket.note().length();
        return what == 0 ? basket.hour() : what == 1 ? basket.load() : what == 2 ? letters
            : what - 3 < letters ? basket.note().charAt(what - 3) - 'a' : NONE;
    }

    long set(int what, int v) {
        if (what < 0 || what > 1 || v < what || v > 9) {
            return BAD;
        }
        int was = settings[what];
        settings[what] = v;
        return was;
    }

    private static long more(List<Integer> hours, int hour) {
        if (hour < 0 || hour > 39) {
            return BAD;
        }
        if (hours.size() == 6) {
            return FULL;
        }
        hours.add(hour);
        return hours.size();
    }

    long wind(int hour) {
        return more(winds, hour);
    }

    long sunday(int hour) {
        return more(sundays, hour);
    }

    long back(int what) {
        if (what < 0 || what > 1) {
            return BAD;
        }
        List<Integer> hours = what == 0 ? winds : sundays;
        if (hours.isEmpty()) {
            return NOT;
        }
        hours.remove(hours.size() - 1);
        return hours.size();
    }

    long read(int s) {
        if (s < 0 || s > 3) {
            return BAD;
        }
        if (sheets[s] == null) {
            return found(1);
        }
        for (int i = 0; i < length(s); i++) {
            if (more(winds, item(s, i)) < 0) {
                return i;
            }
        }
        return length(s);
    }

    // ---- hours

    private Book book(List<Floor> floors, List<Basket> baskets, List<Integer> windy, List<Integer> holy) {
        Book book = new Book();
        int many = baskets.size();
        int[] floor = new int[many];
        int[] load = new int[many];
        int[] left = new int[many];
        String[] note = new String[many];
        boolean[] held = new boolean[many];
        Integer[] up = new Integer[many];
        Map<Integer, Integer> bitten = new HashMap<>();
        for (int b = 0; b < many; b++) {
            floor[b] = NONE;
            load[b] = baskets.get(b).load();
            note[b] = baskets.get(b).note();
            up[b] = NONE;
        }
        for (int hour = 0; hour < 40; hour++) {
            for (int b = 0; b < many; b++) {
                if (baskets.get(b).hour() == hour) {
                    floor[b] = 0;
                    if (floors.isEmpty()) {
                        up[b] = hour;
                    }
                }
            }
            boolean[] tangled = new boolean[many];
            for (int b = 0; b < many; b++) {
                for (int a = 0; a < b; a++) {
                    tangled[b] |= floor[b] >= 0 && floor[b] < floors.size() && floor[a] == floor[b];
                }
            }
            List<Stand> stands = new ArrayList<>();
            for (int b = 0; b < many; b++) {
                if (floor[b] >= 0 && floor[b] < floors.size() && !tangled[b]) {
                    Floor f = floors.get(floor[b]);
                    if (f.sort() == 'c' && windy.contains(hour)) {
                        load[b] -= (load[b] + 1) / 2;
                    }
                    Integer before = bitten.get(floor[b]);
                    boolean hungry = before == null || before + settings[0] < hour;
                    if (!holy.contains(hour) && f.bite() >= 1 && load[b] >= 1 && hungry) {
                        int part = f.bite() > load[b] ? load[b] : f.bite();
                        load[b] -= part;
                        note[b] = f.sort() == 'm' ? f.word() + note[b].substring(1) : note[b] + f.word();
                        bitten.put(floor[b], hour);
                        book.bites.add(new Bite(hour, floor[b], part));
                    }
                }
                stands.add(new Stand(floor[b], load[b], note[b], tangled[b]));
            }
            book.hours.add(stands);
            for (int b = 0; b < many; b++) {
                if (floor[b] < 0 || floor[b] >= floors.size() || tangled[b]) {
                    continue;
                }
                if (floors.get(floor[b]).sort() == 'l' && !held[b] && !holy.contains(hour)) {
                    held[b] = true;
                    continue;
                }
                held[b] = false;
                floor[b]++;
                left[b]++;
                if (left[b] % settings[1] == 0 && note[b].length() >= 2) {
                    note[b] = note[b].substring(1);
                }
                if (floor[b] == floors.size()) {
                    up[b] = hour + 1;
                }
            }
        }
        for (int b = 0; b < many; b++) {
            book.last.add(new Stand(floor[b], load[b], note[b], false));
            book.up.add(up[b]);
        }
        return book;
    }

    private Book told() {
        return book(floors(), baskets(), winds, sundays);
    }

    long at(int hour, int b, int what) {
        if (hour < 0 || hour > 39 || noBasket(b) || what < 0 || what > 3) {
            return BAD;
        }
        Stand stand = told().hours.get(hour).get(b);
        return what == 0 ? stand.floor() : what == 1 ? stand.load() : what == 2 ? stand.note().length()
            : stand.tangled() ? 1 : 0;
    }

    long note(int b, int i) {
        return noBasket(b) || i < 0 || i > 11 ? BAD : told().letter(b, i);
    }

    long comes(int b) {
        return noBasket(b) ? BAD : told().up.get(b);
    }

    private static int often(Book book, int f) {
        return (int) book.bites.stream().filter(bite -> bite.floor() == f).count();
    }

    private static int much(Book book, int f) {
        return book.bites.stream().filter(bite -> bite.floor() == f).mapToInt(Bite::much).sum();
    }

    long bites(int f, int what) {
        if (noFloor(f) || what < 0 || what > 1) {
            return BAD;
        }
        return what == 0 ? often(told(), f) : much(told(), f);
    }

    long famine() {
        return baskets().stream().mapToInt(Basket::load).sum() - told().loadUp();
    }

    long first(int what) {
        if (what < 0 || what > 1) {
            return BAD;
        }
        List<Bite> bites = told().bites;
        return bites.isEmpty() ? NONE : what == 0 ? bites.get(0).hour() : bites.get(0).floor();
    }

    long greedy() {
        Book book = told();
        int most = floors().isEmpty() ? NONE : 0;
        for (int f = 1; f < floors().size(); f++) {
            if (much(book, f) > much(book, most)) {
                most = f;
            }
        }
        return most;
    }

    // ---- plans

    long send(int b, int what) {
        if (noBasket(b) || what < 0 || what > 1) {
            return BAD;
        }
        int most = -1;
        int which = -1;
        for (int hour = 29; hour >= 0; hour--) {
            List<Basket> changed = baskets();
            changed.set(b, new Basket(hour, changed.get(b).load(), changed.get(b).note()));
            int load = book(floors(), changed, winds, sundays).loadUp();
            if (load >= most) {
                most = load;
                which = hour;
            }
        }
        return what == 0 ? which : most;
    }

    long loaf(int b, int much) {
        if (noBasket(b) || much < 0 || much > 99) {
            return BAD;
        }
        int least = NONE;
        for (int load = 99; load >= 0; load--) {
            List<Basket> changed = baskets();
            changed.set(b, new Basket(changed.get(b).hour(), load, changed.get(b).note()));
            Book book = book(floors(), changed, winds, sundays);
            if (book.up.get(b) != NONE && book.last.get(b).load() >= much) {
                least = load;
            }
        }
        return least;
    }

    private boolean whole(int b, int fed) {
        List<Floor> changed = floors();
        for (int f = 0; f < changed.size(); f++) {
            if ((fed >> f & 1) == 1) {
                changed.set(f, new Floor(changed.get(f).sort(), 0, changed.get(f).word()));
            }
        }
        Book book = book(changed, baskets(), winds, sundays);
        return book.up.get(b) != NONE && book.last.get(b).note().equals(baskets().get(b).note());
    }

    long feed(int b, int i) {
        if (noBasket(b) || i < -1 || i > 1) {
            return BAD;
        }
        List<Integer> row = null;
        for (int fed = 0; fed < 1 << floors().size(); fed++) {
            if (Integer.bitCount(fed) > 2 || !whole(b, fed)) {
                continue;
            }
            List<Integer> other = new ArrayList<>();
            for (int f = 0; f < floors().size(); f++) {
                if ((fed >> f & 1) == 1) {
                    other.add(f);
                }
            }
            if (row == null || other.size() < row.size() || other.size() == row.size() && isLess(other, row)) {
                row = other;
            }
        }
        return row == null ? NONE : i == -1 ? row.size() : i < row.size() ? row.get(i) : NONE;
    }

    private static boolean isLess(List<Integer> a, List<Integer> b) {
        for (int i = 0; i < a.size(); i++) {
            if (!a.get(i).equals(b.get(i))) {
                return a.get(i) < b.get(i);
            }
        }
        return false;
    }

    private Book without(int wind) {
        List<Integer> fewer = new ArrayList<>(winds);
        fewer.remove(wind);
        return book(floors(), baskets(), fewer, sundays);
    }

    long still(int what) {
        if (what < 0 || what > 1) {
            return BAD;
        }
        int which = NONE;
        int most = NONE;
        for (int k = winds.size() - 1; k >= 0; k--) {
            if (without(k).loadUp() >= most) {
                which = k;
                most = without(k).loadUp();
            }
        }
        return what == 0 ? which : most;
    }

    // ---- seen, chance, weeks

    long seen(int b, int i, int letter) {
        if (b < 0 || b > 7 || i < 0 || i > 11 || letter < 0 || letter > 8) {
            return BAD;
        }
        if (seen.size() == 8) {
            return FULL;
        }
        seen.add(new int[] {b, i, letter});
        return seen.size();
    }

    long forget() {
        int had = seen.size();
        seen.clear();
        return had;
    }

    private boolean soSeen(Book book) {
        return seen.stream().allMatch(s -> s[0] < book.last.size()
            && (s[2] == 8 ? book.letter(s[0], s[1]) == NONE : book.letter(s[0], s[1]) == s[2]));
    }

    long never() {
        int bits = 0;
        for (int k = 0; k < winds.size(); k++) {
            bits |= soSeen(without(k)) ? 1 << k : 0;
        }
        return bits;
    }

    private Book changed(int f, int bite, char word) {
        List<Floor> changed = floors();
        changed.set(f, new Floor(changed.get(f).sort(), bite, word));
        return book(changed, baskets(), winds, sundays);
    }

    long was(int f, int what) {
        if (noFloor(f) || what < 0 || what > 1) {
            return BAD;
        }
        Floor own = floors().get(f);
        int bits = 0;
        for (int v = 0; v < (what == 0 ? 10 : 8); v++) {
            Book book = what == 0 ? changed(f, v, own.word()) : changed(f, own.bite(), (char) ('a' + v));
            bits |= soSeen(book) ? 1 << v : 0;
        }
        return bits;
    }

    long ask(int f) {
        if (noFloor(f)) {
            return BAD;
        }
        long bits = was(f, 0);
        int which = NONE;
        int least = 99;
        for (int b = 0; b < baskets().size(); b++) {
            int[] heaps = new int[100];
            int greatest = 0;
            for (int v = 0; v < 10; v++) {
                if ((bits >> v & 1) == 1) {
                    int left = changed(f, v, floors().get(f).word()).last.get(b).load();
                    greatest = Math.max(greatest, ++heaps[left]);
                }
            }
            if (greatest < least) {
                least = greatest;
                which = b;
            }
        }
        return which;
    }

    private BigInteger chance(int c, int b, int much, int k, List<Integer> blown) {
        if (k == winds.size()) {
            Book book = book(floors(), baskets(), blown, sundays);
            return book.up.get(b) != NONE && book.last.get(b).load() >= much ? BigInteger.ONE : BigInteger.ZERO;
        }
        List<Integer> more = new ArrayList<>(blown);
        more.add(winds.get(k));
        return chance(c, b, much, k + 1, more).multiply(BigInteger.valueOf(c))
            .add(chance(c, b, much, k + 1, blown).multiply(BigInteger.valueOf(16 - c)));
    }

    long gust(int c, int b, int much, int what) {
        if (c < 0 || c > 16 || noBasket(b) || much < 0 || much > 99 || what < 0 || what > 1) {
            return Long.MIN_VALUE + 2;
        }
        BigInteger above = chance(c, b, much, 0, new ArrayList<>());
        BigInteger below = BigInteger.valueOf(16).pow(winds.size());
        BigInteger common = above.gcd(below);
        return (what == 0 ? above : below).divide(common).longValueExact();
    }

    long week(int seed, int n, int what) {
        if (n < 0 || n > 6 || what < 0 || what > 1) {
            return BAD;
        }
        List<Integer> lots = new ArrayList<>();
        BigInteger lot = BigInteger.valueOf(seed);
        BigInteger all = BigInteger.ONE.shiftLeft(32);
        for (int k = 0; k < n; k++) {
            lot = lot.multiply(BigInteger.valueOf(1103515245)).add(BigInteger.valueOf(12345)).mod(all);
            lots.add(lot.shiftRight(16).intValueExact() % 40);
        }
        Book book = book(floors(), baskets(), winds, lots);
        return what == 0 ? book.loadUp() : book.bites.size();
    }

    // ---- sheets

    private long found(int number) {
        finding = number;
        return -10 - number;
    }

    private int length(int s) {
        return java.lang.reflect.Array.getLength(sheets[s]);
    }

    private int item(int s, int i) {
        return java.lang.reflect.Array.getInt(sheets[s], i);
    }

    private int form(int s) {
        return sheets[s] instanceof byte[] ? 0 : sheets[s] instanceof short[] ? 1 : 2;
    }

    private void store(int s, int i, int v) {
        if (sheets[s] instanceof byte[] row) {
            row[i] = (byte) v;
        } else if (sheets[s] instanceof short[] row) {
            row[i] = (short) v;
        } else if (sheets[s] instanceof int[] row) {
            row[i] = v;
        }
    }

    long sheet(int s, int form, int n) {
        if (s < 0 || s > 3 || form < 0 || form > 2 || n > 60) {
            return BAD;
        }
        if (n < 0) {
            return found(5);
        }
        sheets[s] = form == 0 ? new byte[n] : form == 1 ? new short[n] : new int[n];
        return n;
    }

    long lose(int s) {
        if (s < 0 || s > 3) {
            return BAD;
        }
        if (sheets[s] == null) {
            return found(1);
        }
        int had = length(s);
        sheets[s] = null;
        return had;
    }

    private int wrong(int s, int form, int i) {
        return sheets[s] == null ? 1 : form(s) != form ? 3 : i < 0 || i >= length(s) ? 2 : 0;
    }

    long put(int s, int form, int i, int v) {
        if (s < 0 || s > 3 || form < 0 || form > 2) {
            return BAD;
        }
        if (wrong(s, form, i) != 0) {
            return found(wrong(s, form, i));
        }
        store(s, i, v);
        return 1;
    }

    long get(int s, int form, int i) {
        if (s < 0 || s > 3 || form < 0 || form > 2) {
            return Integer.MIN_VALUE;
        }
        if (wrong(s, form, i) != 0) {
            found(wrong(s, form, i));
            return Integer.MIN_VALUE;
        }
        return item(s, i);
    }

    long copy(int s, int i, int t, int j, int n) {
        if (s < 0 || s > 3 || t < 0 || t > 3) {
            return BAD;
        }
        if (sheets[s] == null || sheets[t] == null) {
            return found(1);
        }
        if (form(s) != form(t)) {
            return found(4);
        }
        if (i < 0 || j < 0 || n < 0 || (long) i + n > length(s) || (long) j + n > length(t)) {
            return found(2);
        }
        int[] kept = new int[n];
        for (int k = 0; k < n; k++) {
            kept[k] = item(s, i + k);
        }
        for (int k = 0; k < n; k++) {
            store(t, j + k, kept[k]);
        }
        return 1;
    }

    long write(int b, int s) {
        if (noBasket(b) || s < 0 || s > 3) {
            return BAD;
        }
        if (sheets[s] == null) {
            return found(1);
        }
        String note = told().last.get(b).note();
        int many = 0;
        while (many < note.length() && many < length(s)) {
            store(s, many, note.charAt(many) - 'a');
            many++;
        }
        return many;
    }

    long count(int what) {
        int[] counts = {floors().size(), baskets().size(), texts[0].length(), texts[1].length(), winds.size(),
            sundays.size(), told().bites.size(), seen.size(), finding};
        return what < 0 || what >= counts.length ? BAD : counts[what];
    }

    long digest() {
        List<Long> each = new ArrayList<>();
        for (int what = 0; what <= 7; what++) {
            each.add(count(what));
        }
        each.addAll(List.of(fault(0), fault(1)));
        for (int f = 0; f < floors().size(); f++) {
            each.addAll(List.of(floor(f, 0), floor(f, 1), floor(f, 2), bites(f, 0), bites(f, 1)));
            each.addAll(List.of(was(f, 0), was(f, 1), ask(f)));
        }
        for (int b = 0; b < baskets().size(); b++) {
            each.addAll(List.of(basket(b, 0), basket(b, 1), basket(b, 2), basket(b, 3), basket(b, 4), basket(b, 5)));
            for (int hour : new int[] {0, 5, 12, 39}) {
                each.addAll(List.of(at(hour, b, 0), at(hour, b, 1), at(hour, b, 2), at(hour, b, 3)));
            }
            each.addAll(List.of(comes(b), note(b, 0), note(b, 1), note(b, 2), note(b, 3), send(b, 0), send(b, 1)));
            each.addAll(List.of(loaf(b, 5), feed(b, NONE), feed(b, 0), gust(5, b, 3, 0), gust(5, b, 3, 1)));
        }
        each.addAll(List.of(famine(), first(0), first(1), greedy(), still(0), still(1), never()));
        each.addAll(List.of(week(7, 5, 0), week(7, 5, 1)));
        BigInteger h = BigInteger.valueOf(17);
        for (long v : each) {
            h = h.multiply(BigInteger.valueOf(31)).add(BigInteger.valueOf(v));
        }
        return h.longValue();
    }
}
