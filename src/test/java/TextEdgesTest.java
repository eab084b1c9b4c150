/** Each sentence about texts, settings, winds and Sundays that names a boundary case: promises 1 to 12. */
public final class TextEdgesTest {
    private static final int NONE = -1, BAD = -2, NOT = -3, FULL = -4, NULL = -11;
    private static final int LEAST = Integer.MIN_VALUE, MOST = Integer.MAX_VALUE;
    private static final Checks C = new Checks();

    public static void main(String[] args) {
        newObject();
        typed();
        lengths();
        wiped();
        undone();
        floorBytes();
        basketBytes();
        faultsAtTheEnds();
        ninthBasket();
        asIfEmpty();
        floors();
        baskets();
        settings();
        marks();
        back();
        read();
        readStops();
        C.end();
    }

    private static void newObject() {
        C.about(1, "No FLOORS, no BASKETS; all SHEETS are LOST");
        BreadString x = new BreadString();
        C.due("count(0)", x.count(0), 0);
        C.due("count(1)", x.count(1), 0);
        C.due("floor(0, 0)", x.floor(0, 0), BAD);
        C.due("basket(0, 0)", x.basket(0, 0), BAD);
        C.due("never()", x.never(), 0);
        C.due("forget()", x.forget(), 0);
        for (int s = 0; s <= 3; s++) {
            C.due("lose(" + s + ")", x.lose(s), NULL);
        }
    }

    private static void typed() {
        C.about(2, "A byte (0 to 255) comes behind a text: how many. BAD; FULL");
        for (int text = 0; text <= 1; text++) {
            BreadString x = new BreadString();
            for (int b : new int[] {-1, 256, LEAST, MOST}) {
                C.due("type(" + text + ", " + b + ")", x.type(text, b), BAD);
            }
            C.due("type(" + text + ", 0)", x.type(text, 0), 1);
            C.due("type(" + text + ", 255)", x.type(text, 255), 2);
            C.due("count of it", x.count(2 + text), 2);
            C.due("count of the other", x.count(3 - text), 0);
        }
        BreadString y = new BreadString();
        for (int text : new int[] {-1, 2, LEAST, MOST}) {
            C.due("type(" + text + ", 48)", y.type(text, 48), BAD);
        }
    }

    private static void dueFull(int text, int most) {
        BreadString x = new BreadString();
        for (int k = 1; k <= most; k++) {
            C.due("byte " + k, x.type(text, 'p'), k);
        }
        C.due("one more", x.type(text, 'p'), FULL);
        C.due("count behind FULL", x.count(2 + text), most);
        C.due("one that is BAD too", x.type(text, 256), BAD);
        C.due("undo", x.undo(text), most - 1);
        C.due("room for one", x.type(text, 'p'), most);
        C.due("and no more", x.type(text, 'p'), FULL);
        C.due("wipe", x.wipe(text), most);
        C.due("room for all", x.type(text, 'p'), 1);
    }

    private static void lengths() {
        C.about(2, "FLOORS are a text of up to 35 bytes");
        dueFull(0, 35);
        C.about(2, "BASKETS are a text of up to 63 bytes");
        dueFull(1, 63);
        C.about(2, "FULL");
        BreadString x = Checks.tower(Checks.many(9, "p1a"), Checks.many(8, "0010abc"));
        C.due("; behind nine floors", x.type(0, ';'), FULL);
        C.due("the nine stay", x.count(0), 9);
        C.due("; behind eight baskets", x.type(1, ';'), FULL);
        C.due("the eight stay", x.count(1), 8);
    }

    private static void wiped() {
        C.about(3, "A text is empty: how many bytes it had. BAD");
        BreadString x = new BreadString();
        for (int text : new int[] {-1, 2, LEAST, MOST}) {
            C.due("wipe(" + text + ")", x.wipe(text), BAD);
        }
        C.due("an empty one", x.wipe(0), 0);
        C.due("an empty one", x.wipe(1), 0);
        Checks.type(x, 0, "?");
        C.due("with a FAULT", x.wipe(0), 1);
        C.due("no FAULT now", x.fault(0), NONE);
        Checks.type(x, 1, Checks.many(8, "0010abc"));
        C.due("a full one", x.wipe(1), 63);
        C.due("none", x.count(1), 0);
    }

    private static void undone() {
        C.about(4, "how many are left. BAD; NOT: it is empty");
        BreadString x = new BreadString();
        for (int text : new int[] {-1, 2, LEAST, MOST}) {
            C.due("undo(" + text + ")", x.undo(text), BAD);
        }
        C.due("empty", x.undo(0), NOT);
        C.due("empty", x.undo(1), NOT);
        x.type(0, 'p');
        C.due("the other is empty", x.undo(1), NOT);
        C.due("the only byte", x.undo(0), 0);
        C.due("empty again", x.undo(0), NOT);
        Checks.type(x, 0, Checks.many(9, "p1a"));
        C.due("of a full one", x.undo(0), 34);
        x.wipe(0);
        C.due("behind wipe", x.undo(0), NOT);
    }

    /** Each byte there is comes behind a start; it may stand there, or its own place is the fault. */
    private static void dueBytes(int text, String start, String may, String ends) {
        for (int b = 0; b <= 255; b++) {
            BreadString x = new BreadString();
            Checks.type(x, text, start);
            x.type(text, b);
            int end = start.length() + 1;
            int want = may.indexOf(b) < 0 ? end - 1 : ends.indexOf(b) < 0 ? end : NONE;
            C.due("fault of " + start + " and byte " + b, x.fault(text), want);
        }
    }

    private static void floorBytes() {
        C.about(5, "p (plain), m (mice), l (lovers) or c (the convent)");
        dueBytes(0, "", "pmlc", "");
        dueBytes(0, "p1a;", "pmlc", "");
        C.about(5, "a figure 0 to 9, how much it BITES");
        dueBytes(0, "p", "0123456789", "");
        dueBytes(0, "p1a;c", "0123456789", "");
        C.about(5, "a letter a to h, its WORD");
        dueBytes(0, "m0", "abcdefgh", "abcdefgh");
        dueBytes(0, "p1a;l9", "abcdefgh", "abcdefgh");
        C.about(5, "with ; between them");
        dueBytes(0, "l9h", ";", "");
        dueBytes(0, "p1a;l9h", ";", "");
    }

    private static void basketBytes() {
        String figures = "0123456789";
        String letters = "abcdefgh";
        for (String ahead : new String[] {"", "0000a;", "2999hgf;"}) {
            C.about(5, "a figure 0 to 2 and a figure, the HOUR (00 to 29)");
            dueBytes(1, ahead, "012", "");
            dueBytes(1, ahead + "0", figures, "");
            dueBytes(1, ahead + "2", figures, "");
            C.about(5, "two figures, its LOAD (00 to 99)");
            dueBytes(1, ahead + "00", figures, "");
            dueBytes(1, ahead + "299", figures, "");
            C.about(5, "1 to 3 letters a to h, its NOTE");
            dueBytes(1, ahead + "0000", letters, letters);
            dueBytes(1, ahead + "0000a", letters + ";", letters);
            dueBytes(1, ahead + "0000ah", letters + ";", letters);
            C.about(5, "here also of a fourth letter");
            dueBytes(1, ahead + "0000aha", ";", "");
        }
    }

    private static void dueFault(int text, String bytes, int want) {
        BreadString x = new BreadString();
        Checks.type(x, text, bytes);
        C.due("fault of " + bytes, x.fault(text), want);
    }

    private static void faultsAtTheEnds() {
        C.about(5, "an empty one is well");
        dueFault(0, "", NONE);
        dueFault(1, "", NONE);
        BreadString x = Checks.tower("?", "?");
        C.due("a wrong byte", x.fault(0), 0);
        x.undo(0);
        x.undo(1);
        C.due("empty behind undo", x.fault(0), NONE);
        C.due("empty behind undo", x.fault(1), NONE);
        C.about(5, "of one that is not ended, its end");
        String floors = Checks.many(9, "c9h");
        for (int end = 0; end <= 35; end++) {
            dueFault(0, floors.substring(0, end), end == 0 || end % 4 == 3 ? NONE : end);
        }
        String baskets = Checks.many(8, "2999abc");
        for (int end = 0; end <= 63; end++) {
            dueFault(1, baskets.substring(0, end), end == 0 || end % 8 >= 5 ? NONE : end);
        }
        C.about(5, "the place of the first byte with which it cannot go on");
        dueFault(0, "p1a;x1a;y", 4);
        dueFault(1, "0000a;3000a;9", 6);
        dueFault(0, "p1a ", 3);
        dueFault(1, ";0000a", 0);
        C.about(5, "The FAULT of a text; NONE. BAD");
        for (int text : new int[] {-1, 2, LEAST, MOST}) {
            C.due("fault(" + text + ")", x.fault(text), BAD);
        }
    }

    private static void ninthBasket() {
        C.about(5, "here also of the first byte of a ninth BASKET");
        String eight = Checks.many(8, "0010a");
        dueFault(1, eight, NONE);
        dueFault(1, eight + "bc", NONE);
        dueFault(1, eight + "bcd", 49);
        dueFault(1, eight + ";", 48);
        dueBytes(1, eight + ";", "", "");
        dueFault(1, eight + ";0010a", 48);
        dueFault(1, Checks.many(7, "0010a") + ";0010", 46);
        C.about(5, "FLOORS, 9 at most (the first byte of a tenth has no room in 35 bytes)");
        dueFault(0, Checks.many(9, "p1a"), NONE);
        dueFault(0, Checks.many(10, "p1a"), NONE);
        BreadString x = new BreadString();
        Checks.type(x, 0, Checks.many(10, "p1a"));
        C.due("floors", x.count(0), 9);
    }

    private static void asIfEmpty() {
        C.about(5, "With a FAULT a text is as if it was empty");
        BreadString x = Checks.tower("p3a;p2b;", "0510h");
        C.due("count(0)", x.count(0), 0);
        C.due("count(2)", x.count(2), 8);
        C.due("floor(0, 1)", x.floor(0, 1), BAD);
        C.due("bites(0, 0)", x.bites(0, 0), BAD);
        C.due("was(0, 0)", x.was(0, 0), BAD);
        C.due("ask(0)", x.ask(0), BAD);
        C.due("comes(0), in its own hour", x.comes(0), 5);
        C.due("count(6)", x.count(6), 0);
        C.due("greedy()", x.greedy(), NONE);
        x.undo(0);
        C.due("behind undo comes(0)", x.comes(0), 7);
        C.due("behind undo count(0)", x.count(0), 2);
        x.type(1, '0');
        C.due("count(1)", x.count(1), 0);
        C.due("count(3)", x.count(3), 6);
        C.due("basket(0, 0)", x.basket(0, 0), BAD);
        C.due("at(5, 0, 0)", x.at(5, 0, 0), BAD);
        C.due("comes(0)", x.comes(0), BAD);
        C.due("famine()", x.famine(), 0);
        C.due("first(0)", x.first(0), NONE);
        C.due("ask(0)", x.ask(0), NONE);
        x.undo(1);
        C.due("behind undo famine()", x.famine(), 5);
    }

    private static void floors() {
        C.about(6, "Its sort (0 p, 1 m, 2 l, 3 c), how much it BITES, its WORD of a FLOOR. BAD");
        String sorts = "pmlc";
        for (int sort = 0; sort < 4; sort++) {
            for (int bite = 0; bite <= 9; bite += 9) {
                for (int word = 0; word <= 7; word += 7) {
                    String text = "" + sorts.charAt(sort) + bite + (char) ('a' + word);
                    BreadString x = Checks.tower(Checks.many(8, "m5d") + ";" + text, "");
                    C.due(text + " sort", x.floor(8, 0), sort);
                    C.due(text + " bites", x.floor(8, 1), bite);
                    C.due(text + " word", x.floor(8, 2), word);
                }
            }
        }
        BreadString y = Checks.tower(Checks.many(9, "p1a"), "");
        for (int wrong : new int[] {-1, 9, LEAST, MOST}) {
            C.due("floor(" + wrong + ", 0)", y.floor(wrong, 0), BAD);
        }
        for (int wrong : new int[] {-1, 3, LEAST, MOST}) {
            C.due("floor(8, " + wrong + ")", y.floor(8, wrong), BAD);
        }
    }

    private static void dueBasket(String text, int... want) {
        BreadString x = Checks.tower("", Checks.many(7, "1234bcd") + ";" + text);
        for (int what = 0; what <= 5; what++) {
            C.due(text + " basket(7, " + what + ")", x.basket(7, what), want[what]);
        }
    }

    private static void baskets() {
        C.about(7, "The HOUR, the LOAD, how many letters, these (NONE: not so many) of a BASKET as told. BAD");
        dueBasket("0000a", 0, 0, 1, 0, NONE, NONE);
        dueBasket("2999hh", 29, 99, 2, 7, 7, NONE);
        dueBasket("0990aha", 9, 90, 3, 0, 7, 0);
        dueBasket("2009hah", 20, 9, 3, 7, 0, 7);
        BreadString x = Checks.tower("p9b;m1c", "0005abc");
        C.due("letters as told, not as bitten", x.basket(0, 2), 3);
        C.due("the first as told", x.basket(0, 3), 0);
        C.due("the load as told", x.basket(0, 1), 5);
        for (int wrong : new int[] {-1, 1, LEAST, MOST}) {
            C.due("basket(" + wrong + ", 0)", x.basket(wrong, 0), BAD);
        }
        for (int wrong : new int[] {-1, 6, LEAST, MOST}) {
            C.due("basket(0, " + wrong + ")", x.basket(0, wrong), BAD);
        }
    }

    private static void settings() {
        for (int what = 0; what <= 1; what++) {
            C.about(8, what == 0 ? "HUNGER (0 to 9; 3 at first)" : "WEAR (1 to 9; 4 at first)");
            BreadString x = new BreadString();
            int was = 3 + what;
            for (int v = what; v <= 9; v++) {
                C.due("set(" + what + ", " + v + ")", x.set(what, v), was);
                was = v;
            }
            for (int wrong : new int[] {what - 1, -1, 10, LEAST, MOST}) {
                C.due("set(" + what + ", " + wrong + ")", x.set(what, wrong), BAD);
            }
            C.due("it is still 9", x.set(what, 1), 9);
            C.due("the other is as at first", x.set(1 - what, 1), 4 - what);
        }
        BreadString y = new BreadString();
        for (int wrong : new int[] {-1, 2, LEAST, MOST}) {
            C.due("set(" + wrong + ", 5)", y.set(wrong, 5), BAD);
        }
    }

    private static int mark(BreadString x, int what, int hour) {
        return what == 0 ? x.wind(hour) : x.sunday(hour);
    }

    private static void marks() {
        for (int what = 0; what <= 1; what++) {
            C.about(9 + what, (what == 0 ? "WINDS" : "SUNDAYS") + ", 6 at most: HOURS. BAD; FULL");
            BreadString x = new BreadString();
            for (int wrong : new int[] {-1, 40, LEAST, MOST}) {
                C.due("hour " + wrong, mark(x, what, wrong), BAD);
            }
            C.due("hour 0", mark(x, what, 0), 1);
            C.due("hour 39", mark(x, what, 39), 2);
            for (int k = 3; k <= 6; k++) {
                C.due("one more, in the same hour", mark(x, what, 39), k);
            }
            C.due("a seventh", mark(x, what, 1), FULL);
            C.due("a seventh that is no hour", mark(x, what, 40), BAD);
            C.due("six", x.count(4 + what), 6);
            C.due("none of the other", x.count(5 - what), 0);
            C.due("the other has room", mark(x, 1 - what, 1), 1);
            C.due("back", x.back(what), 5);
            C.due("room for one", mark(x, what, 1), 6);
        }
    }

    private static void back() {
        C.about(11, "The last WIND, SUNDAY is undone: how many are left. BAD; NOT: there is none");
        BreadString x = Checks.tower("c1a", "0010h");
        for (int wrong : new int[] {-1, 2, LEAST, MOST}) {
            C.due("back(" + wrong + ")", x.back(wrong), BAD);
        }
        x.sunday(0);
        C.due("no wind, but a Sunday", x.back(0), NOT);
        x.wind(0);
        C.due("the only Sunday", x.back(1), 0);
        C.due("no Sunday, but a wind", x.back(1), NOT);
        for (int k = 2; k <= 6; k++) {
            x.wind(20);
        }
        for (int left = 5; left >= 1; left--) {
            C.due("back(0)", x.back(0), left);
            C.due("the first wind stays", x.famine(), 6);
        }
        C.due("the only wind", x.back(0), 0);
        C.due("it blows no more", x.famine(), 1);
        C.due("none", x.back(0), NOT);
    }

    private static BreadString withSheet(int form, int... items) {
        BreadString x = Checks.tower("c0a", "0080h");
        // what the sheet held ahead of this is no item of it
        x.sheet(0, form, 60);
        for (int i = 0; i < 60; i++) {
            x.put(0, form, i, 7);
        }
        x.sheet(0, form, items.length);
        for (int i = 0; i < items.length; i++) {
            x.put(0, form, i, items[i]);
        }
        return x;
    }

    private static void read() {
        C.about(12, "WINDS from a SHEET: its items, one for each: how many. BAD; NULL");
        BreadString x = new BreadString();
        for (int wrong : new int[] {-1, 4, LEAST, MOST}) {
            C.due("read(" + wrong + ")", x.read(wrong), BAD);
        }
        C.due("count(8)", x.count(8), 0);
        for (int s = 0; s <= 3; s++) {
            C.due("read(" + s + "), LOST", x.read(s), NULL);
        }
        C.due("count(8)", x.count(8), 1);
        C.due("no items", withSheet(0).read(0), 0);
        for (int form = 0; form <= 2; form++) {
            BreadString y = withSheet(form, 0, 39);
            C.due("two items of form " + form, y.read(0), 2);
            C.due("two winds", y.count(4), 2);
            C.due("the first blows", y.at(0, 0, 1), 40);
            C.due("the items stay", y.get(0, form, 1), 39);
        }
    }

    private static void readStops() {
        C.about(12, "as long as each may be");
        for (int wrong : new int[] {-1, 40, 127, -128}) {
            C.due("the first is " + wrong, withSheet(0, wrong, 0).read(0), 0);
            BreadString x = withSheet(0, 39, wrong, 0);
            C.due("the second is " + wrong, x.read(0), 1);
            C.due("winds", x.count(4), 1);
            C.due("no wind in hour 0", x.at(0, 0, 1), 80);
        }
        C.due("the greatest int", withSheet(2, 5, MOST).read(0), 1);
        C.due("the least int", withSheet(2, 5, LEAST).read(0), 1);
        C.due("six", withSheet(1, 1, 2, 3, 4, 5, 6).read(0), 6);
        BreadString seven = withSheet(1, 1, 2, 3, 4, 5, 6, 0);
        C.due("a seventh", seven.read(0), 6);
        C.due("winds", seven.count(4), 6);
        C.due("the seventh does not blow", seven.at(0, 0, 1), 80);
        C.due("none may be", seven.read(0), 0);
        C.due("that is no FINDING", seven.count(8), 0);
        seven.back(0);
        C.due("room for one", seven.read(0), 1);
        BreadString some = withSheet(1, 8, 9, 10, 0);
        some.wind(1);
        some.wind(2);
        some.wind(3);
        C.due("behind three that are told", some.read(0), 3);
        C.due("six in all", some.count(4), 6);
        C.due("the fourth item does not blow", some.at(0, 0, 1), 80);
    }
}
