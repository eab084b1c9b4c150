/** Each sentence about sheets, counts and the digest that names a boundary case: promises 31 to 38. */
public final class SheetEdgesTest {
    private static final int NONE = -1, BAD = -2;
    private static final int NULL = -11, INDEX = -12, CAST = -13, STORE = -14, SIZE = -15;
    private static final int LEAST = Integer.MIN_VALUE, MOST = Integer.MAX_VALUE;
    private static final int[] WRONG_SHEETS = {LEAST, -1, 4, MOST};
    private static final int[] WRONG_FORMS = {LEAST, -1, 3, MOST};
    private static final Checks C = new Checks();

    public static void main(String[] args) {
        sheets();
        sheetRefusals();
        newRows();
        lost();
        lowestBits();
        putRefusals();
        getRefusals();
        copies();
        copiesOnto();
        copyOrder();
        copyBounds();
        written();
        writtenAtLast();
        counts();
        latestFinding();
        digestOfNothing();
        digestParts();
        lastCall();
        C.end();
    }

    private static BreadString row(int s, int form, int n) {
        BreadString x = new BreadString();
        x.sheet(s, form, n);
        for (int i = 0; i < n; i++) {
            x.put(s, form, i, i + 1);
        }
        return x;
    }

    private static void dueItems(String name, BreadString x, int s, int form, int... want) {
        for (int i = 0; i < want.length; i++) {
            C.due(name + ", item " + i, x.get(s, form, i), want[i]);
        }
    }

    private static void sheets() {
        C.about(31, "SHEETS 0 .. 3 are a row of a FORM: 0 bytes, 1 shorts, 2 ints, of 0 to 60 items (0 at first)");
        for (int s = 0; s <= 3; s++) {
            for (int form = 0; form <= 2; form++) {
                for (int n : new int[] {0, 1, 59, 60}) {
                    BreadString x = new BreadString();
                    String name = "sheet(" + s + ", " + form + ", " + n + ")";
                    C.due(name, x.sheet(s, form, n), n);
                    for (int i = 0; i < n; i++) {
                        C.due(name + ", item " + i, x.get(s, form, i), 0);
                    }
                    C.due(name + ", no finding", x.count(8), 0);
                    C.due(name + ", one item more", x.get(s, form, n), LEAST);
                    C.due(name + ", INDEX", x.count(8), 2);
                    C.due(name + ", lose", x.lose(s), n);
                }
            }
        }
    }

    private static void sheetRefusals() {
        C.about(31, "BAD: SHEET, FORM, above 60; SIZE");
        BreadString x = row(0, 1, 2);
        for (int wrong : WRONG_SHEETS) {
            C.due("sheet(" + wrong + ", 0, 1)", x.sheet(wrong, 0, 1), BAD);
            C.due("sheet(" + wrong + ", 0, -1): BAD is ahead of SIZE", x.sheet(wrong, 0, -1), BAD);
        }
        for (int wrong : WRONG_FORMS) {
            C.due("sheet(0, " + wrong + ", 1)", x.sheet(0, wrong, 1), BAD);
            C.due("sheet(0, " + wrong + ", -1): BAD is ahead of SIZE", x.sheet(0, wrong, -1), BAD);
        }
        C.due("sheet(0, 0, 61)", x.sheet(0, 0, 61), BAD);
        C.due("sheet(0, 0, MOST)", x.sheet(0, 0, MOST), BAD);
        C.due("BAD is no FINDING", x.count(8), 0);
        C.about(31, "5 SIZE: below 0");
        C.due("sheet(0, 0, -1)", x.sheet(0, 0, -1), SIZE);
        C.due("count(8)", x.count(8), 5);
        C.due("sheet(0, 0, LEAST)", x.sheet(0, 0, LEAST), SIZE);
        dueItems("the row stays", x, 0, 1, 1, 2);
        C.due("a LOST one stays so", x.sheet(1, 0, -1), SIZE);
        C.due("lose(1)", x.lose(1), NULL);
    }

    private static void newRows() {
        C.about(31, "A SHEET is a new row of a FORM with n items");
        BreadString x = row(2, 2, 60);
        C.due("as many", x.sheet(2, 2, 60), 60);
        for (int i = 0; i < 60; i++) {
            C.due("item " + i, x.get(2, 2, i), 0);
        }
        BreadString y = row(2, 2, 3);
        C.due("fewer, of another FORM", y.sheet(2, 0, 2), 2);
        dueItems("fewer", y, 2, 0, 0, 0, LEAST);
        C.due("the third is none", y.count(8), 2);
        C.due("the old FORM", y.get(2, 2, 0), LEAST);
        C.due("is another", y.count(8), 3);
        C.due("more again", y.sheet(2, 2, 4), 4);
        dueItems("more", y, 2, 2, 0, 0, 0, 0);
        BreadString all = row(1, 1, 2);
        all.sheet(0, 1, 60);
        all.sheet(2, 1, 60);
        dueItems("a row beside it stays", all, 1, 1, 1, 2);
    }

    private static void lost() {
        C.about(32, "It is LOST: how many items it had. BAD; NULL");
        BreadString x = row(3, 0, 60);
        for (int wrong : WRONG_SHEETS) {
            C.due("lose(" + wrong + ")", x.lose(wrong), BAD);
        }
        C.due("BAD is no FINDING", x.count(8), 0);
        C.due("LOST at first", x.lose(0), NULL);
        C.due("sixty", x.lose(3), 60);
        C.due("LOST", x.lose(3), NULL);
        C.due("count(8)", x.count(8), 1);
        x.sheet(3, 0, 0);
        C.due("none", x.lose(3), 0);
        C.due("LOST again", x.lose(3), NULL);
        x.sheet(3, 0, 60);
        C.due("0 at first, behind it", x.get(3, 0, 0), 0);
        C.due("the last too", x.get(3, 0, 59), 0);
    }

    private static void lowestBits() {
        C.about(33, "Item i, treated as of a FORM, becomes v (the lowest bits that it has): 1");
        int[] values = {0, 1, -1, 127, 128, 255, 256, -128, -129, 32767, 32768, 65535, 65536, -32768, -32769, MOST,
            LEAST};
        for (int v : values) {
            for (int form = 0; form <= 2; form++) {
                BreadString x = row(1, form, 3);
                C.due("put(1, " + form + ", 1, " + v + ")", x.put(1, form, 1, v), 1);
                int want = form == 0 ? (byte) v : form == 1 ? (short) v : v;
                dueItems("put(1, " + form + ", 1, " + v + ")", x, 1, form, 1, want, 3);
            }
        }
        BreadString ends = row(1, 2, 60);
        C.due("the first", ends.put(1, 2, 0, 100), 1);
        C.due("the last", ends.put(1, 2, 59, 200), 1);
        C.due("the first", ends.get(1, 2, 0), 100);
        C.due("the last", ends.get(1, 2, 59), 200);
        C.due("beside the last", ends.get(1, 2, 58), 59);
    }

    private static void putRefusals() {
        C.about(33, "BAD; NULL; CAST; INDEX");
        BreadString x = row(0, 1, 2);
        for (int wrong : WRONG_SHEETS) {
            C.due("put(" + wrong + ", 0, 9, 5)", x.put(wrong, 0, 9, 5), BAD);
        }
        for (int wrong : WRONG_FORMS) {
            C.due("put(0, " + wrong + ", 9, 5)", x.put(0, wrong, 9, 5), BAD);
            C.due("put(1, " + wrong + ", 9, 5), LOST", x.put(1, wrong, 9, 5), BAD);
        }
        C.due("BAD is no FINDING", x.count(8), 0);
        C.due("NULL is ahead of INDEX", x.put(1, 1, -1, 5), NULL);
        C.due("count(8)", x.count(8), 1);
        for (int form = 0; form <= 2; form += 2) {
            C.due("CAST", x.put(0, form, 0, 5), CAST);
            C.due("CAST is ahead of INDEX", x.put(0, form, 2, 5), CAST);
            C.due("CAST is ahead of INDEX below", x.put(0, form, -1, 5), CAST);
        }
        C.due("count(8)", x.count(8), 3);
        for (int wrong : new int[] {LEAST, -1, 2, 60, MOST}) {
            C.due("put(0, 1, " + wrong + ", 5)", x.put(0, 1, wrong, 5), INDEX);
        }
        C.due("count(8)", x.count(8), 2);
        dueItems("the row stays", x, 0, 1, 1, 2);
        x.sheet(2, 0, 0);
        C.due("no items", x.put(2, 0, 0, 5), INDEX);
    }

    private static void dueFinding(String name, BreadString x, int s, int form, int i, int finding) {
        C.due(name, x.get(s, form, i), LEAST);
        C.due(name + ", count(8)", x.count(8), finding);
    }

    private static void getRefusals() {
        C.about(34, "BAD: the least int; so are NULL, CAST, INDEX (count() 8 tells)");
        BreadString x = row(0, 1, 2);
        for (int wrong : WRONG_SHEETS) {
            dueFinding("get(" + wrong + ", 0, 9)", x, wrong, 0, 9, 0);
        }
        for (int wrong : WRONG_FORMS) {
            dueFinding("get(0, " + wrong + ", 9)", x, 0, wrong, 9, 0);
            dueFinding("get(1, " + wrong + ", 9), LOST", x, 1, wrong, 9, 0);
        }
        dueFinding("NULL is ahead of INDEX", x, 1, 1, -1, 1);
        dueFinding("CAST is ahead of INDEX", x, 0, 0, 2, 3);
        dueFinding("INDEX", x, 0, 1, 2, 2);
        dueFinding("CAST", x, 0, 2, 0, 3);
        dueFinding("INDEX below", x, 0, 1, -1, 2);
        dueFinding("NULL", x, 3, 1, 0, 1);
        dueFinding("INDEX far", x, 0, 1, MOST, 2);
        dueFinding("INDEX far below", x, 0, 1, LEAST, 2);
        dueFinding("BAD leaves it", x, 0, 3, 0, 2);
        C.due("an item leaves it", x.get(0, 1, 1), 2);
        C.due("count(8)", x.count(8), 2);
        x.sheet(2, 2, 1);
        x.put(2, 2, 0, LEAST);
        x.lose(3);
        dueFinding("the least int as an item is no FINDING", x, 2, 2, 0, 1);
    }

    private static void copies() {
        C.about(35, "n items of SHEET s, from i on, come to SHEET t, from j on: 1");
        for (int form = 0; form <= 2; form++) {
            BreadString x = row(0, form, 4);
            x.sheet(1, form, 3);
            C.due("one, from the last to the first", x.copy(0, 3, 1, 0, 1), 1);
            dueItems("to the first", x, 1, form, 4, 0, 0);
            C.due("as many as there is room for", x.copy(0, 1, 1, 0, 3), 1);
            dueItems("all three", x, 1, form, 2, 3, 4);
            dueItems("the others stay", x, 0, form, 1, 2, 3, 4);
            C.due("none", x.copy(0, 4, 1, 3, 0), 1);
            C.due("none, at the start", x.copy(0, 0, 1, 0, 0), 1);
            dueItems("as ahead of it", x, 1, form, 2, 3, 4);
        }
        BreadString most = row(0, 2, 60);
        most.sheet(3, 2, 60);
        C.due("sixty", most.copy(0, 0, 3, 0, 60), 1);
        C.due("the last", most.get(3, 2, 59), 60);
        C.due("the first", most.get(3, 2, 0), 1);
        most.sheet(1, 2, 0);
        C.due("none of none", most.copy(1, 0, 1, 0, 0), 1);
        C.due("no finding", most.count(8), 0);
    }

    private static void copiesOnto() {
        C.about(35, "SHEET t (perhaps s, as they were)");
        BreadString up = row(2, 1, 5);
        C.due("upwards", up.copy(2, 0, 2, 1, 4), 1);
        dueItems("upwards", up, 2, 1, 1, 1, 2, 3, 4);
        BreadString down = row(2, 1, 5);
        C.due("downwards", down.copy(2, 1, 2, 0, 4), 1);
        dueItems("downwards", down, 2, 1, 2, 3, 4, 5, 5);
        BreadString same = row(2, 1, 5);
        C.due("in place", same.copy(2, 0, 2, 0, 5), 1);
        dueItems("in place", same, 2, 1, 1, 2, 3, 4, 5);
    }

    private static void copyOrder() {
        C.about(35, "BAD: the SHEETS; NULL: s, t; STORE; INDEX");
        BreadString x = row(0, 1, 3);
        for (int wrong : WRONG_SHEETS) {
            C.due("copy(" + wrong + ", ..)", x.copy(wrong, 0, 1, 0, -1), BAD);
            C.due("copy(1, 0, " + wrong + ", ..)", x.copy(1, 0, wrong, 0, -1), BAD);
        }
        C.due("BAD is no FINDING", x.count(8), 0);
        C.due("s is LOST", x.copy(1, -1, 0, -1, -1), NULL);
        C.due("t is LOST", x.copy(0, -1, 1, -1, -1), NULL);
        C.due("both are", x.copy(1, 0, 1, 0, 0), NULL);
        C.due("count(8)", x.count(8), 1);
        int[] unlike = {0, 2};
        for (int form : unlike) {
            x.sheet(2, form, 3);
            C.due("unlike FORMS", x.copy(0, 0, 2, 0, 1), STORE);
            C.due("unlike FORMS, the other way", x.copy(2, 0, 0, 0, 1), STORE);
            C.due("none, of unlike FORMS", x.copy(0, 0, 2, 0, 0), STORE);
            C.due("STORE is ahead of INDEX", x.copy(0, 9, 2, 9, 9), STORE);
        }
        C.due("count(8)", x.count(8), 4);
        dueItems("nothing came", x, 0, 1, 1, 2, 3);
    }

    private static void copyBounds() {
        C.about(35, "INDEX: below 0, not so many");
        int[][] wrong = {{-1, 0, 1}, {0, -1, 1}, {0, 0, -1}, {-1, 0, 0}, {0, -1, 0}, {3, 0, 1}, {0, 2, 1}, {4, 0, 0},
            {0, 3, 0}, {0, 0, 3}, {2, 0, 2}, {0, 1, 2}, {1, 1, MOST}, {MOST, 0, 1}, {0, MOST, 1}, {MOST, MOST, MOST},
            {LEAST, 0, 1}, {0, LEAST, 1}, {0, 0, LEAST}, {LEAST, LEAST, LEAST}, {3, 2, -1}, {MOST, 0, -1},
            {1, 0, MOST}};
        BreadString x = row(0, 1, 3);
        x.sheet(2, 1, 2);
        for (int[] w : wrong) {
            C.due("copy(0, " + w[0] + ", 2, " + w[1] + ", " + w[2] + ")", x.copy(0, w[0], 2, w[1], w[2]), INDEX);
        }
        C.due("count(8)", x.count(8), 2);
        dueItems("nothing came", x, 2, 1, 0, 0);
        C.due("onto itself, one too many", x.copy(0, 0, 0, 1, 3), INDEX);
        dueItems("nothing moved", x, 0, 1, 1, 2, 3);
        C.due("the most that fit", x.copy(0, 1, 2, 0, 2), 1);
        dueItems("they came", x, 2, 1, 2, 3);
    }

    private static void written() {
        C.about(36, "comes to a SHEET from item 0 on, as many as there are items and letters: how many. BAD; NULL");
        for (int form = 0; form <= 2; form++) {
            for (int n = 0; n <= 6; n++) {
                BreadString x = row(1, form, n);
                Checks.type(x, 0, "p3c;m2h");
                Checks.type(x, 1, "0010abd");
                int[] note = {7, 1, 3, 2};
                C.due("write to " + n + " items", x.write(0, 1), Math.min(n, 4));
                for (int i = 0; i < n; i++) {
                    C.due("item " + i + " of " + n, x.get(1, form, i), i < 4 ? note[i] : i + 1);
                }
            }
        }
        BreadString y = Checks.tower("p3c", "0010abd");
        for (int wrong : WRONG_SHEETS) {
            C.due("write(0, " + wrong + ")", y.write(0, wrong), BAD);
        }
        for (int wrong : new int[] {LEAST, -1, 1, 8, MOST}) {
            C.due("write(" + wrong + ", 0), LOST too", y.write(wrong, 0), BAD);
        }
        C.due("BAD is no FINDING", y.count(8), 0);
        C.due("LOST", y.write(0, 3), NULL);
        C.due("count(8)", y.count(8), 1);
        C.due("still LOST", y.lose(3), NULL);
    }

    private static void writtenAtLast() {
        C.about(36, "The NOTE of a BASKET at last");
        BreadString x = Checks.tower(Checks.many(8, "p0a") + ";m1b", "0010abc;0110def");
        x.sheet(0, 0, 3);
        C.due("worn twice, mice over the last", x.write(0, 0), 1);
        dueItems("b", x, 0, 0, 1, 0, 0);
        C.due("mice are not hungry", x.write(1, 0), 1);
        dueItems("f", x, 0, 0, 5, 0, 0);
        BreadString late = Checks.tower(Checks.many(5, "l0a") + ";p1g;p1h", "2910a");
        late.sheet(0, 2, 60);
        C.due("of one that is not up", late.write(0, 0), 2);
        dueItems("ag", late, 0, 2, 0, 6, 0);
    }

    private static void counts() {
        C.about(37, "0 FLOORS, 1 BASKETS, 2, 3 bytes of texts, 4 WINDS, 5 SUNDAYS, 6 bites in all, 7 SEEN. BAD");
        BreadString x = new BreadString();
        for (int what = 0; what <= 8; what++) {
            C.due("at first count(" + what + ")", x.count(what), 0);
        }
        for (int wrong : new int[] {LEAST, -1, 9, MOST}) {
            C.due("count(" + wrong + ")", x.count(wrong), BAD);
        }
        Checks.type(x, 0, Checks.many(9, "p1a"));
        Checks.type(x, 1, Checks.many(8, "0099abc"));
        for (int k = 0; k < 7; k++) {
            x.wind(k);
            x.sunday(30 + k);
        }
        for (int k = 0; k < 9; k++) {
            x.seen(0, 0, 0);
        }
        x.set(0, 0);
        int[] most = {9, 8, 35, 63, 6, 6, 72, 8, 0};
        for (int what = 0; what <= 8; what++) {
            C.due("the most, count(" + what + ")", x.count(what), most[what]);
        }
        x.undo(0);
        C.due("a FAULT: no FLOORS", x.count(0), 0);
        C.due("a FAULT: bytes", x.count(2), 34);
        C.due("a FAULT: no bites", x.count(6), 0);
    }

    private static void latestFinding() {
        C.about(37, "8 the number of the latest FINDING (0 before any)");
        BreadString x = new BreadString();
        x.type(9, 9);
        x.undo(0);
        x.back(0);
        x.lose(4);
        C.due("other refusals are none", x.count(8), 0);
        x.sheet(0, 0, 1);
        x.sheet(1, 1, 1);
        x.lose(3);
        C.due("NULL", x.count(8), 1);
        x.put(0, 0, 1, 0);
        C.due("INDEX", x.count(8), 2);
        x.put(0, 1, 0, 0);
        C.due("CAST", x.count(8), 3);
        x.copy(0, 0, 1, 0, 1);
        C.due("STORE", x.count(8), 4);
        x.sheet(0, 0, -1);
        C.due("SIZE", x.count(8), 5);
        x.sheet(0, 0, 1);
        x.put(0, 0, 0, 1);
        x.wipe(0);
        x.digest();
        C.due("what goes well leaves it", x.count(8), 5);
        x.read(3);
        C.due("NULL by read", x.count(8), 1);
    }

    private static void digestOfNothing() {
        C.about(38, "h is 17; h becomes 31 h and each of; as longs that wrap");
        long h = 17;
        // count() 0 to 7, two faults, famine, first twice, greedy, still twice, never, week twice
        int[] each = {0, 0, 0, 0, 0, 0, 0, 0, NONE, NONE, 0, NONE, NONE, NONE, NONE, NONE, 0, 0, 0};
        for (int v : each) {
            h = 31 * h + v;
        }
        C.due("a new object", new BreadString().digest(), h);
        BreadString x = new BreadString();
        x.sheet(0, 0, 5);
        x.lose(3);
        C.due("sheets and count(8) are not in it", x.digest(), h);
        x.set(0, 9);
        x.set(1, 9);
        C.due("nor HUNGER and WEAR by themselves", x.digest(), h);
    }

    private static void digestParts() {
        C.about(38, "of texts fault(); of FLOORS ask(); of BASKETS loaf(it, 5), feed(it, NONE), gust(5, it, 3)");
        BreadString x = Checks.windy("c2b", "0009ab", 0);
        // counts, faults; the floor with its bites, was(), ask()
        long[] each = {1, 1, 3, 6, 1, 0, 1, 0, NONE, NONE, 3, 2, 1, 1, 2, 1023, 255, 0,
            // the basket, then at() in hours 0, 5, 12 and 39: half of 9 less 2, three letters
            0, 9, 2, 0, 1, NONE, 0, 2, 3, 0, 1, 2, 3, 0, 1, 2, 3, 0, 1, 2, 3, 0,
            // comes(), note(), send() in hour 1 with no wind, loaf(), feed(), gust(): calm by 11 of 16
            1, 0, 1, 1, NONE, 1, 7, 14, 1, 0, 11, 16,
            // famine(), first(), greedy(), still(), never(), week()
            7, 0, 0, 0, 0, 7, 1, 2, 1};
        long h = 17;
        for (long v : each) {
            h = 31 * h + v;
        }
        C.due("one floor, one basket", x.digest(), h);
        C.due("once more", x.digest(), h);
    }

    private static void lastCall() {
        C.about(38, "An object is used for at most 512 calls after it has been made");
        BreadString x = Checks.tower("c2b", "0009ab");
        int calls = 9;
        while (calls < 511) {
            C.due("call " + (calls + 1), x.digest(), x.digest());
            calls += 2;
        }
        C.due("call 512", x.digest(), Checks.tower("c2b", "0009ab").digest());
    }
}
