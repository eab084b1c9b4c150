/**
 * A tower up which baskets of bread go on a string, floor by floor: what becomes of bread and notes, what had better
 * be done, and what may be told by what was seen. The numbered promises of the document say what each call answers.
 */
public final class BreadString {
    public static final int NONE = -1, BAD = -2, NOT = -3, FULL = -4;

    private static final int NULL = 1, INDEX = 2, CAST = 3, STORE = 4, SIZE = 5;
    private static final int HOURS = 40, SEND_HOURS = 30;
    private static final int MOST_FLOORS = 9, MOST_BASKETS = 8, MOST_MARKS = 6, MOST_SEEN = 8, MOST_FED = 2;
    private static final int FLOOR_BYTES = 35, BASKET_BYTES = 63;
    private static final int LETTERS = 8, TOLD_LETTERS = 3, NOTE_PLACES = 12, NO_LETTER = 8;
    private static final int BITES = 10, LOADS = 100;
    private static final int SHEETS = 4, FORMS = 3, SHEET_ITEMS = 60;
    private static final int LEAST_INT = 1 << 31;
    private static final long LEAST_LONG = 1L << 63;
    private static final int PLAIN = 0, MICE = 1, LOVERS = 2, CONVENT = 3;

    private final Text floorText = new Text(FLOOR_BYTES);
    private final Text basketText = new Text(BASKET_BYTES);
    private final Tower tower = new Tower();
    private final Trip trip = new Trip(tower);
    private final Marks winds = new Marks();
    private final Marks sundays = new Marks();
    private final Sightings sightings = new Sightings();
    private final Sheets sheets = new Sheets();
    private final Best best = new Best();
    private final int[] fed = new int[MOST_FED];
    private int fedCount = NONE;
    private final int[] leftLoads = new int[BITES * MOST_BASKETS];
    private long above = 0;
    private long below = 1;
    private int finding = 0;

    public BreadString() {
    }

    // ---- floors, baskets, winds, Sundays

    public int type(int text, int b) {
        if (!isText(text) || b < 0 || b > 255) {
            return BAD;
        }
        if (!textOf(text).append(b)) {
            return FULL;
        }
        return reread(text);
    }

    public int wipe(int text) {
        if (!isText(text)) {
            return BAD;
        }
        int had = textOf(text).size;
        textOf(text).size = 0;
        reread(text);
        return had;
    }

    public int undo(int text) {
        if (!isText(text)) {
            return BAD;
        }
        if (textOf(text).size == 0) {
            return NOT;
        }
        textOf(text).size--;
        return reread(text);
    }

    public int fault(int text) {
        if (!isText(text)) {
            return BAD;
        }
        return text == 0 ? tower.floorFault : tower.basketFault;
    }

    public int floor(int floor, int what) {
        if (!isFloor(floor)) {
            return BAD;
        }
        switch (what) {
            case 0:
                return tower.sort[floor];
            case 1:
                return tower.bite[floor];
            case 2:
                return tower.word[floor];
            default:
                return BAD;
        }
    }

    public int basket(int basket, int what) {
        if (!isBasket(basket) || what < 0 || what > 5) {
            return BAD;
        }
        switch (what) {
            case 0:
                return tower.hour[basket];
            case 1:
                return tower.load[basket];
            case 2:
                return tower.letters[basket];
            default:
                return tower.toldLetter(basket, what - 3);
        }
    }

    public int set(int what, int v) {
        if (what == 0 && v >= 0 && v <= 9) {
            int was = tower.hunger;
            tower.hunger = v;
            return was;
        }
        if (what == 1 && v >= 1 && v <= 9) {
            int was = tower.wear;
            tower.wear = v;
            return was;
        }
        return BAD;
    }

    public int wind(int hour) {
        return oneMore(winds, hour);
    }

    public int sunday(int hour) {
        return oneMore(sundays, hour);
    }

    public int back(int what) {
        if (what != 0 && what != 1) {
            return BAD;
        }
        Marks marks = what == 0 ? winds : sundays;
        if (marks.size == 0) {
            return NOT;
        }
        marks.size--;
        return marks.size;
    }

    public int read(int s) {
        if (!isSheet(s)) {
            return BAD;
        }
        if (sheets.isLost(s)) {
            return found(NULL);
        }
        int many = 0;
        while (many < sheets.size[s] && oneMore(winds, sheets.item(s, many)) >= 0) {
            many++;
        }
        return many;
    }

    // ---- hours

    public int at(int hour, int basket, int what) {
        if (!isHour(hour) || !isBasket(basket) || what < 0 || what > 3) {
            return BAD;
        }
        trip.go(winds.all(), sundays.all(), hour);
        switch (what) {
            case 0:
                return trip.floor[basket];
            case 1:
                return trip.load[basket];
            case 2:
                return trip.letters(basket);
            default:
                return trip.tangled[basket];
        }
    }

    public int note(int basket, int i) {
        if (!isBasket(basket) || i < 0 || i >= NOTE_PLACES) {
            return BAD;
        }
        goAsTold();
        return trip.letter(basket, i);
    }

    public int comes(int basket) {
        if (!isBasket(basket)) {
            return BAD;
        }
        goAsTold();
        return trip.up[basket];
    }

    public int bites(int floor, int what) {
        if (!isFloor(floor) || (what != 0 && what != 1)) {
            return BAD;
        }
        goAsTold();
        return what == 0 ? trip.often[floor] : trip.eaten[floor];
    }

    public int famine() {
        goAsTold();
        return tower.loadInAll() - trip.loadUp();
    }

    public int first(int what) {
        if (what != 0 && what != 1) {
            return BAD;
        }
        goAsTold();
        return what == 0 ? trip.firstHour : trip.firstFloor;
    }

    public int greedy() {
        goAsTold();
        best.clear();
        for (int f = 0; f < tower.floors; f++) {
            best.offer(f, trip.eaten[f]);
        }
        return best.which;
    }

    // ---- plans

    public int send(int basket, int what) {
        if (!isBasket(basket) || (what != 0 && what != 1)) {
            return BAD;
        }
        findHour(basket);
        return what == 0 ? best.which : best.much;
    }

    public int loaf(int basket, int much) {
        if (!isBasket(basket) || !isLoad(much)) {
            return BAD;
        }
        int own = tower.load[basket];
        int least = NONE;
        // a load never grows, so less than what is to come up need not be tried
        for (int load = much; load < LOADS && least == NONE; load++) {
            tower.load[basket] = load;
            goAsTold();
            if (trip.bringsUp(basket, much)) {
                least = load;
            }
        }
        tower.load[basket] = own;
        return least;
    }

    public int feed(int basket, int i) {
        if (!isBasket(basket) || i < NONE || i >= MOST_FED) {
            return BAD;
        }
        findFed(basket);
        return i == NONE ? fedCount : fedAt(i);
    }

    public int still(int what) {
        if (what != 0 && what != 1) {
            return BAD;
        }
        findStill();
        return what == 0 ? best.which : best.much;
    }

    // ---- seen, chance, weeks

    public int seen(int basket, int i, int letter) {
        if (basket < 0 || basket >= MOST_BASKETS || i < 0 || i >= NOTE_PLACES || letter < 0 || letter > NO_LETTER) {
            return BAD;
        }
        return sightings.add(basket, i, letter) ? sightings.size : FULL;
    }

    public int forget() {
        int had = sightings.size;
        sightings.size = 0;
        return had;
    }

    public int never() {
        int bits = 0;
        for (int k = 0; k < winds.size; k++) {
            trip.go(winds.allBut(k), sundays.all(), HOURS);
            if (sightings.agree(trip)) {
                bits |= 1 << k;
            }
        }
        return bits;
    }

    public int was(int floor, int what) {
        if (!isFloor(floor)) {
            return BAD;
        }
        switch (what) {
            case 0:
                return fittingBites(floor);
            case 1:
                return fittingWords(floor);
            default:
                return BAD;
        }
    }

    public int ask(int floor) {
        if (!isFloor(floor)) {
            return BAD;
        }
        int bits = fittingBites(floor);
        best.clear();
        for (int b = 0; b < tower.baskets; b++) {
            // Best looks for the most: what the basket sets apart is most where its greatest heap is least
            best.offer(b, BITES - greatestHeap(b, bits));
        }
        return best.which;
    }

    public long gust(int c, int basket, int much, int what) {
        if (c < 0 || c > 16 || !isBasket(basket) || !isLoad(much) || (what != 0 && what != 1)) {
            return LEAST_LONG - BAD;
        }
        findChance(c, basket, much);
        return what == 0 ? above : below;
    }

    public int week(int seed, int n, int what) {
        if (n < 0 || n > MOST_MARKS || (what != 0 && what != 1)) {
            return BAD;
        }
        trip.go(winds.all(), lots(seed, n), HOURS);
        return what == 0 ? trip.loadUp() : trip.bites;
    }

    // ---- sheets

    public int sheet(int s, int form, int n) {
        if (!isSheet(s) || !isForm(form) || n > SHEET_ITEMS) {
            return BAD;
        }
        if (n < 0) {
            return found(SIZE);
        }
        sheets.make(s, form, n);
        return n;
    }

    public int lose(int s) {
        if (!isSheet(s)) {
            return BAD;
        }
        if (sheets.isLost(s)) {
            return found(NULL);
        }
        int had = sheets.size[s];
        sheets.size[s] = NONE;
        return had;
    }

    public int put(int s, int form, int i, int v) {
        if (!isSheet(s) || !isForm(form)) {
            return BAD;
        }
        int wrong = sheets.wrongWith(s, form, i);
        if (wrong != 0) {
            return found(wrong);
        }
        sheets.store(s, i, v);
        return 1;
    }

    public int get(int s, int form, int i) {
        if (!isSheet(s) || !isForm(form)) {
            return LEAST_INT;
        }
        int wrong = sheets.wrongWith(s, form, i);
        if (wrong != 0) {
            found(wrong);
            return LEAST_INT;
        }
        return sheets.item(s, i);
    }

    public int copy(int s, int i, int t, int j, int n) {
        if (!isSheet(s) || !isSheet(t)) {
            return BAD;
        }
        if (sheets.isLost(s) || sheets.isLost(t)) {
            return found(NULL);
        }
        if (sheets.form[s] != sheets.form[t]) {
            return found(STORE);
        }
        if (!sheets.hasItems(s, i, n) || !sheets.hasItems(t, j, n)) {
            return found(INDEX);
        }
        System.arraycopy(sheets.items, s * SHEET_ITEMS + i, sheets.items, t * SHEET_ITEMS + j, n);
        return 1;
    }

    public int write(int basket, int s) {
        if (!isBasket(basket) || !isSheet(s)) {
            return BAD;
        }
        if (sheets.isLost(s)) {
            return found(NULL);
        }
        goAsTold();
        int many = Math.min(sheets.size[s], trip.letters(basket));
        for (int i = 0; i < many; i++) {
            sheets.store(s, i, trip.letter(basket, i));
        }
        return many;
    }

    public int count(int what) {
        switch (what) {
            case 0:
                return tower.floors;
            case 1:
                return tower.baskets;
            case 2:
                return floorText.size;
            case 3:
                return basketText.size;
            case 4:
                return winds.size;
            case 5:
                return sundays.size;
            case 6:
                goAsTold();
                return trip.bites;
            case 7:
                return sightings.size;
            case 8:
                return finding;
            default:
                return BAD;
        }
    }

    public long digest() {
        long h = 17;
        for (int what = 0; what <= 7; what++) {
            h = mixed(h, count(what));
        }
        h = mixed(mixed(h, fault(0)), fault(1));
        for (int f = 0; f < tower.floors; f++) {
            h = mixedFloor(h, f);
        }
        for (int b = 0; b < tower.baskets; b++) {
            h = mixedPlans(mixedWay(h, b), b);
        }
        h = mixed(h, famine());
        h = mixed(mixed(h, first(0)), first(1));
        h = mixed(h, greedy());
        findStill();
        h = mixed(mixed(h, best.which), best.much);
        h = mixed(h, never());
        return mixed(mixed(h, week(7, 5, 0)), week(7, 5, 1));
    }

    // ---- what a number may be

    private static boolean isText(int text) {
        return text == 0 || text == 1;
    }

    private static boolean isHour(int hour) {
        return hour >= 0 && hour < HOURS;
    }

    private static boolean isLoad(int load) {
        return load >= 0 && load < LOADS;
    }

    private static boolean isSheet(int s) {
        return s >= 0 && s < SHEETS;
    }

    private static boolean isForm(int form) {
        return form >= 0 && form < FORMS;
    }

    private boolean isFloor(int floor) {
        return floor >= 0 && floor < tower.floors;
    }

    private boolean isBasket(int basket) {
        return basket >= 0 && basket < tower.baskets;
    }

    // ---- parts of the calls

    private Text textOf(int text) {
        return text == 0 ? floorText : basketText;
    }

    private int reread(int text) {
        if (text == 0) {
            tower.readFloors(floorText);
        } else {
            tower.readBaskets(basketText);
        }
        return textOf(text).size;
    }

    private static int oneMore(Marks marks, int hour) {
        if (!isHour(hour)) {
            return BAD;
        }
        return marks.add(hour) ? marks.size : FULL;
    }

    private int found(int number) {
        finding = number;
        return -10 - number;
    }

    private void goAsTold() {
        trip.go(winds.all(), sundays.all(), HOURS);
    }

    private void findHour(int basket) {
        int own = tower.hour[basket];
        best.clear();
        for (int hour = 0; hour < SEND_HOURS; hour++) {
            tower.hour[basket] = hour;
            goAsTold();
            best.offer(hour, trip.loadUp());
        }
        tower.hour[basket] = own;
    }

    private void findStill() {
        best.clear();
        for (int k = 0; k < winds.size; k++) {
            trip.go(winds.allBut(k), sundays.all(), HOURS);
            best.offer(k, trip.loadUp());
        }
    }

    /** Leaves the floors in fed, their number in fedCount; by the order of the tries the first that does is due. */
    private void findFed(int basket) {
        fedCount = staysWhole(basket, NONE, NONE) ? 0 : NONE;
        for (int f = 0; f < tower.floors && fedCount == NONE; f++) {
            if (staysWhole(basket, f, NONE)) {
                keepFed(1, f, NONE);
            }
        }
        for (int f = 0; f < tower.floors && fedCount == NONE; f++) {
            for (int g = f + 1; g < tower.floors && fedCount == NONE; g++) {
                if (staysWhole(basket, f, g)) {
                    keepFed(2, f, g);
                }
            }
        }
    }

    private void keepFed(int many, int f, int g) {
        fedCount = many;
        fed[0] = f;
        fed[1] = g;
    }

    private int fedAt(int i) {
        return i >= 0 && i < fedCount && i < MOST_FED ? fed[i] : NONE;
    }

    /** Whether the note comes up as told if floors f and g (NONE: no floor) do not bite. */
    private boolean staysWhole(int basket, int f, int g) {
        int ownF = tower.changeBite(f, 0);
        int ownG = tower.changeBite(g, 0);
        trip.go(winds.all(), sundays.all(), HOURS);
        tower.changeBite(g, ownG);
        tower.changeBite(f, ownF);
        return trip.up[basket] != NONE && trip.noteAsTold(basket);
    }

    private int fittingBites(int floor) {
        int own = tower.bite[floor];
        int bits = 0;
        for (int v = 0; v < BITES; v++) {
            tower.bite[floor] = v;
            trip.go(winds.all(), sundays.all(), HOURS);
            if (sightings.agree(trip)) {
                bits |= 1 << v;
            }
            System.arraycopy(trip.load, 0, leftLoads, v * MOST_BASKETS, MOST_BASKETS);
        }
        tower.bite[floor] = own;
        return bits;
    }

    private int fittingWords(int floor) {
        int own = tower.word[floor];
        int bits = 0;
        for (int v = 0; v < LETTERS; v++) {
            tower.word[floor] = v;
            trip.go(winds.all(), sundays.all(), HOURS);
            if (sightings.agree(trip)) {
                bits |= 1 << v;
            }
        }
        tower.word[floor] = own;
        return bits;
    }

    /** Of the bites among bits, by what fittingBites left behind: how many leave one load in the basket, at most. */
    private int greatestHeap(int basket, int bits) {
        int greatest = 0;
        for (int v = 0; v < BITES; v++) {
            int heap = 0;
            for (int w = 0; w < BITES; w++) {
                boolean both = (bits >> v & 1) == 1 && (bits >> w & 1) == 1;
                if (both && leftLoads[v * MOST_BASKETS + basket] == leftLoads[w * MOST_BASKETS + basket]) {
                    heap++;
                }
            }
            greatest = Math.max(greatest, heap);
        }
        return greatest;
    }

    private void findChance(int c, int basket, int much) {
        above = 0;
        below = 1L << 4 * winds.size;
        for (int chosen = 0; chosen < 1 << winds.size; chosen++) {
            long weight = 1;
            for (int k = 0; k < winds.size; k++) {
                weight *= (chosen >> k & 1) == 1 ? c : 16 - c;
            }
            if (weight > 0) {
                trip.go(winds.chosen(chosen), sundays.all(), HOURS);
                above += trip.bringsUp(basket, much) ? weight : 0;
            }
        }
        // below is a power of two, so halving is all that lowest terms need
        for (int k = 0; k < 4 * MOST_MARKS && below > 1 && above % 2 == 0; k++) {
            above /= 2;
            below /= 2;
        }
    }

    private static long lots(int seed, int n) {
        long days = 0;
        int lot = seed;
        for (int k = 0; k < n; k++) {
            lot = 1103515245 * lot + 12345;
            days |= 1L << (lot >>> 16) % HOURS;
        }
        return days;
    }

    // ---- parts of the digest

    private static long mixed(long h, long v) {
        return 31 * h + v;
    }

    private long mixedFloor(long h, int f) {
        for (int what = 0; what <= 2; what++) {
            h = mixed(h, floor(f, what));
        }
        h = mixed(mixed(h, bites(f, 0)), bites(f, 1));
        h = mixed(mixed(h, was(f, 0)), was(f, 1));
        return mixed(h, ask(f));
    }

    private long mixedWay(long h, int b) {
        for (int what = 0; what <= 5; what++) {
            h = mixed(h, basket(b, what));
        }
        h = mixedHour(h, b, 0);
        h = mixedHour(h, b, 5);
        h = mixedHour(h, b, 12);
        h = mixedHour(h, b, 39);
        h = mixed(h, comes(b));
        for (int i = 0; i <= 3; i++) {
            h = mixed(h, note(b, i));
        }
        return h;
    }

    private long mixedHour(long h, int b, int hour) {
        for (int what = 0; what <= 3; what++) {
            h = mixed(h, at(hour, b, what));
        }
        return h;
    }

    /** Looks for each plan once, where two calls would look twice. */
    private long mixedPlans(long h, int b) {
        findHour(b);
        h = mixed(mixed(h, best.which), best.much);
        h = mixed(h, loaf(b, 5));
        findFed(b);
        h = mixed(mixed(h, fedCount), fedAt(0));
        findChance(5, b, 3);
        return mixed(mixed(h, above), below);
    }

    /** The bytes of one text. */
    private static final class Text {
        final int[] bytes;
        int size = 0;

        Text(int most) {
            bytes = new int[most < 0 ? 0 : most];
        }

        boolean append(int b) {
            if (size < 0 || size >= bytes.length) {
                return false;
            }
            bytes[size] = b;
            size++;
            return true;
        }
    }

    /** What the texts and settings tell: the floors and the baskets that are to be sent. */
    private static final class Tower {
        /** From the first byte of a floor to that of the next. */
        private static final int FLOOR_STEP = 4;

        int floors = 0;
        int floorFault = NONE;
        final int[] sort = new int[MOST_FLOORS];
        final int[] bite = new int[MOST_FLOORS];
        final int[] word = new int[MOST_FLOORS];
        int baskets = 0;
        int basketFault = NONE;
        final int[] hour = new int[MOST_BASKETS];
        final int[] load = new int[MOST_BASKETS];
        final int[] letters = new int[MOST_BASKETS];
        final int[] told = new int[MOST_BASKETS * TOLD_LETTERS];
        int hunger = 3;
        int wear = 4;

        void readFloors(Text text) {
            floorFault = takeFloors(text);
            floors = floorFault == NONE ? (text.size + 1) / FLOOR_STEP : 0;
        }

        private int takeFloors(Text text) {
            for (int i = 0; i < text.size; i++) {
                int b = text.bytes[i];
                int f = i / FLOOR_STEP;
                int part = i % FLOOR_STEP;
                if (f >= MOST_FLOORS) {
                    return i;
                }
                if (part == 0 && sortOf(b) != NONE) {
                    sort[f] = sortOf(b);
                } else if (part == 1 && isFigure(b)) {
                    bite[f] = b - '0';
                } else if (part == 2 && isLetter(b)) {
                    word[f] = b - 'a';
                } else if (part != 3 || b != ';') {
                    return i;
                }
            }
            return text.size == 0 || text.size % FLOOR_STEP == 3 ? NONE : text.size;
        }

        void readBaskets(Text text) {
            baskets = 0;
            basketFault = takeBaskets(text);
            if (basketFault != NONE) {
                baskets = 0;
            }
        }

        private int takeBaskets(Text text) {
            // how many bytes of its basket stand ahead of a byte
            int part = 0;
            for (int i = 0; i < text.size; i++) {
                int b = text.bytes[i];
                if (part > 4 && b == ';') {
                    part = 0;
                } else if (basketTakes(part, b)) {
                    keepBasketByte(part, b);
                    part++;
                } else {
                    return i;
                }
            }
            return text.size == 0 || part > 4 ? NONE : text.size;
        }

        private boolean basketTakes(int part, int b) {
            if (part == 0) {
                return baskets < MOST_BASKETS && b >= '0' && b <= '2';
            }
            return part < 4 ? isFigure(b) : part < 4 + TOLD_LETTERS && isLetter(b);
        }

        private void keepBasketByte(int part, int b) {
            if (part == 0) {
                baskets++;
            }
            int k = baskets - 1;
            if (k < 0 || k >= MOST_BASKETS) {
                return;
            }
            switch (part) {
                case 0:
                    hour[k] = 10 * (b - '0');
                    break;
                case 1:
                    hour[k] += b - '0';
                    break;
                case 2:
                    load[k] = 10 * (b - '0');
                    break;
                case 3:
                    load[k] += b - '0';
                    break;
                default:
                    letters[k] = part - 3;
                    told[k * TOLD_LETTERS + part - 4] = b - 'a';
            }
        }

        int toldLetter(int basket, int i) {
            return i >= 0 && i < letters[basket] ? told[basket * TOLD_LETTERS + i] : NONE;
        }

        int loadInAll() {
            int sum = 0;
            for (int b = 0; b < baskets; b++) {
                sum += load[b];
            }
            return sum;
        }

        /** What the floor bit till now; with no such floor nothing is changed. */
        int changeBite(int f, int v) {
            if (f < 0 || f >= floors) {
                return 0;
            }
            int own = bite[f];
            bite[f] = v;
            return own;
        }

        private static int sortOf(int b) {
            switch (b) {
                case 'p':
                    return PLAIN;
                case 'm':
                    return MICE;
                case 'l':
                    return LOVERS;
                case 'c':
                    return CONVENT;
                default:
                    return NONE;
            }
        }

        private static boolean isFigure(int b) {
            return b >= '0' && b <= '9';
        }

        private static boolean isLetter(int b) {
            return b >= 'a' && b <= 'h';
        }
    }

    /** The hours, gone through from the first one on; it keeps how things stand where it stopped. */
    private static final class Trip {
        /** A told note, and a word for each of the two hours that a floor may have it untangled, fit. */
        private static final int NOTE_ROOM = TOLD_LETTERS + 2 * MOST_FLOORS;

        private final Tower tower;
        private boolean windy = false;
        private boolean holy = false;
        final int[] floor = new int[MOST_BASKETS];
        final int[] load = new int[MOST_BASKETS];
        final int[] tangled = new int[MOST_BASKETS];
        final int[] up = new int[MOST_BASKETS];
        private final int[] held = new int[MOST_BASKETS];
        private final int[] notes = new int[MOST_BASKETS * NOTE_ROOM];
        private final int[] start = new int[MOST_BASKETS];
        private final int[] end = new int[MOST_BASKETS];
        private final int[] last = new int[MOST_FLOORS];
        final int[] often = new int[MOST_FLOORS];
        final int[] eaten = new int[MOST_FLOORS];
        private int notUp = 0;
        int bites = 0;
        int firstHour = NONE;
        int firstFloor = NONE;

        Trip(Tower tower) {
            this.tower = tower;
        }

        /** Goes on until the bites of the hour stop are done, or, with stop HOURS, to the end. */
        void go(long winds, long sundays, int stop) {
            begin();
            for (int hour = 0; hour < HOURS && notUp > 0; hour++) {
                windy = (winds >> hour & 1) == 1;
                holy = (sundays >> hour & 1) == 1;
                arrive(hour);
                serve(hour);
                if (hour == stop) {
                    return;
                }
                climb(hour);
            }
        }

        private void begin() {
            for (int b = 0; b < tower.baskets; b++) {
                floor[b] = NONE;
                load[b] = tower.load[b];
                tangled[b] = 0;
                up[b] = NONE;
                held[b] = 0;
                start[b] = 0;
                end[b] = tower.letters[b];
                System.arraycopy(tower.told, b * TOLD_LETTERS, notes, b * NOTE_ROOM, TOLD_LETTERS);
            }
            notUp = tower.baskets;
            for (int f = 0; f < tower.floors; f++) {
                last[f] = NONE;
                often[f] = 0;
                eaten[f] = 0;
            }
            bites = 0;
            firstHour = NONE;
            firstFloor = NONE;
        }

        private void arrive(int hour) {
            for (int b = 0; b < tower.baskets; b++) {
                if (tower.hour[b] == hour) {
                    floor[b] = 0;
                    if (tower.floors == 0) {
                        up[b] = hour;
                        notUp--;
                    }
                }
            }
        }

        private void serve(int hour) {
            int taken = 0;
            for (int b = 0; b < tower.baskets; b++) {
                int f = floor[b];
                if (f < 0 || f >= tower.floors) {
                    continue;
                }
                tangled[b] = taken >> f & 1;
                taken |= 1 << f;
                if (tangled[b] == 1) {
                    continue;
                }
                if (tower.sort[f] == CONVENT && windy) {
                    load[b] /= 2;
                }
                if (load[b] > 0 && wantsBite(f, hour)) {
                    bite(b, f, hour);
                }
            }
        }

        private boolean wantsBite(int f, int hour) {
            boolean hungry = last[f] == NONE || hour - last[f] > tower.hunger;
            return hungry && tower.bite[f] > 0 && !holy;
        }

        private void bite(int b, int f, int hour) {
            int part = tower.bite[f] < load[b] ? tower.bite[f] : load[b];
            load[b] -= part;
            last[f] = hour;
            often[f]++;
            eaten[f] += part;
            bites++;
            if (firstHour == NONE) {
                firstHour = hour;
                firstFloor = f;
            }
            if (tower.sort[f] == MICE) {
                notes[b * NOTE_ROOM + start[b]] = tower.word[f];
            } else if (end[b] < NOTE_ROOM) {
                notes[b * NOTE_ROOM + end[b]] = tower.word[f];
                end[b]++;
            }
        }

        private void climb(int hour) {
            for (int b = 0; b < tower.baskets; b++) {
                int f = floor[b];
                if (f < 0 || f >= tower.floors || tangled[b] == 1) {
                    continue;
                }
                if (tower.sort[f] == LOVERS && held[b] == 0 && !holy) {
                    held[b] = 1;
                } else {
                    leave(b, hour);
                }
            }
        }

        private void leave(int b, int hour) {
            held[b] = 0;
            floor[b]++;
            // its floor's number is also how many floors it has left
            if (tower.wear > 0 && floor[b] % tower.wear == 0 && end[b] - start[b] >= 2) {
                start[b]++;
            }
            if (floor[b] == tower.floors) {
                up[b] = hour + 1;
                notUp--;
            }
        }

        int letters(int b) {
            return end[b] - start[b];
        }

        int letter(int b, int i) {
            return i >= 0 && i < letters(b) ? notes[b * NOTE_ROOM + start[b] + i] : NONE;
        }

        boolean noteAsTold(int b) {
            if (letters(b) != tower.letters[b]) {
                return false;
            }
            for (int i = 0; i < TOLD_LETTERS; i++) {
                if (letter(b, i) != tower.toldLetter(b, i)) {
                    return false;
                }
            }
            return true;
        }

        boolean bringsUp(int b, int much) {
            return up[b] != NONE && load[b] >= much;
        }

        int loadUp() {
            int sum = 0;
            for (int b = 0; b < tower.baskets; b++) {
                if (up[b] != NONE) {
                    sum += load[b];
                }
            }
            return sum;
        }
    }

    /** Hours that are winds, or Sundays, in the order told; as a set, hour h is bit h. */
    private static final class Marks {
        private final int[] hours = new int[MOST_MARKS];
        int size = 0;

        boolean add(int hour) {
            if (size < 0 || size >= MOST_MARKS) {
                return false;
            }
            hours[size] = hour;
            size++;
            return true;
        }

        long all() {
            return chosen(-1);
        }

        long allBut(int k) {
            return chosen(~(1 << k));
        }

        long chosen(int which) {
            long set = 0;
            for (int k = 0; k < size; k++) {
                if ((which >> k & 1) == 1) {
                    set |= 1L << hours[k];
                }
            }
            return set;
        }
    }

    /** What was seen of notes at last. */
    private static final class Sightings {
        private final int[] basket = new int[MOST_SEEN];
        private final int[] place = new int[MOST_SEEN];
        private final int[] letter = new int[MOST_SEEN];
        int size = 0;

        boolean add(int seenBasket, int seenPlace, int seenLetter) {
            if (size < 0 || size >= MOST_SEEN) {
                return false;
            }
            basket[size] = seenBasket;
            place[size] = seenPlace;
            letter[size] = seenLetter == NO_LETTER ? NONE : seenLetter;
            size++;
            return true;
        }

        boolean agree(Trip trip) {
            for (int k = 0; k < size; k++) {
                if (basket[k] >= trip.tower.baskets || trip.letter(basket[k], place[k]) != letter[k]) {
                    return false;
                }
            }
            return true;
        }
    }

    /** The greatest of what is offered, of like ones the one that came first. */
    private static final class Best {
        int which = NONE;
        int much = NONE;

        void clear() {
            which = NONE;
            much = NONE;
        }

        void offer(int candidate, int amount) {
            if (amount > much) {
                which = candidate;
                much = amount;
            }
        }
    }

    /** The rows, side by side in one array that is made once; one of size NONE is lost. */
    private static final class Sheets {
        final int[] form = new int[SHEETS];
        final int[] size = new int[SHEETS];
        final int[] items = new int[SHEETS * SHEET_ITEMS];

        Sheets() {
            for (int s = 0; s < SHEETS; s++) {
                size[s] = NONE;
            }
        }

        boolean isLost(int s) {
            return size[s] == NONE;
        }

        void make(int s, int newForm, int n) {
            form[s] = newForm;
            size[s] = n;
            for (int i = 0; i < n; i++) {
                items[s * SHEET_ITEMS + i] = 0;
            }
        }

        /** The finding that stands in the way of item i of a form, 0 if none does. */
        int wrongWith(int s, int wanted, int i) {
            if (isLost(s)) {
                return NULL;
            }
            if (form[s] != wanted) {
                return CAST;
            }
            return hasItems(s, i, 1) ? 0 : INDEX;
        }

        boolean hasItems(int s, int i, int n) {
            return i >= 0 && n >= 0 && n <= size[s] && i <= size[s] - n;
        }

        int item(int s, int i) {
            return items[s * SHEET_ITEMS + i];
        }

        void store(int s, int i, int v) {
            int kept = form[s] == 0 ? (byte) v : form[s] == 1 ? (short) v : v;
            items[s * SHEET_ITEMS + i] = kept;
        }
    }
}
