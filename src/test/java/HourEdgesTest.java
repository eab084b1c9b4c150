/** Each sentence about what an hour does, and what is told of it, that names a boundary case: promises 13 to 19. */
public final class HourEdgesTest {
    private static final int NONE = -1, BAD = -2;
    private static final int LEAST = Integer.MIN_VALUE, MOST = Integer.MAX_VALUE;
    /** A basket of hour 29 leaves five floors of lovers as hour 38 ends. */
    private static final String FIVE_LOVERS = Checks.many(5, "l0a");
    private static final Checks C = new Checks();

    public static void main(String[] args) {
        firstAndLastHour();
        coming();
        tangled();
        half();
        sundays();
        whetherItBites();
        hungry();
        howMuchItTakes();
        words();
        goesUp();
        lovers();
        loversAndTangles();
        wear();
        wornDown();
        stands();
        notesAtLast();
        comesUp();
        noFloors();
        bites();
        famine();
        first();
        greedy();
        C.end();
    }

    /** The row that at() answers for what = 0 to 3. */
    private static void dueAt(BreadString x, int hour, int basket, int floor, int load, int letters, int tangled) {
        int[] want = {floor, load, letters, tangled};
        for (int what = 0; what <= 3; what++) {
            C.due("at(" + hour + ", " + basket + ", " + what + ")", x.at(hour, basket, what), want[what]);
        }
    }

    private static void firstAndLastHour() {
        C.about(13, "HOURS are 0 to 39");
        dueAt(Checks.windy("c0a", "0010h", 0), 0, 0, 0, 5, 1, 0);
        dueAt(Checks.windy("c0a", "0010h", 1), 0, 0, 0, 10, 1, 0);
        dueAt(Checks.windy(FIVE_LOVERS + ";c0a", "2910h", 39), 39, 0, 5, 5, 1, 0);
        dueAt(Checks.windy(FIVE_LOVERS + ";c0a", "2910h", 38), 39, 0, 5, 10, 1, 0);
        dueAt(Checks.holy("p1a", "0010h", 0), 0, 0, 0, 10, 1, 0);
        dueAt(Checks.holy(FIVE_LOVERS + ";p1a", "2910h", 39), 39, 0, 5, 10, 1, 0);
        dueAt(Checks.holy(FIVE_LOVERS + ";p1a", "2910h"), 39, 0, 5, 9, 2, 0);
        BreadString x = Checks.tower("p1a", "0010h");
        for (int wrong : new int[] {-1, 40, LEAST, MOST}) {
            C.due("at(" + wrong + ", 0, 0)", x.at(wrong, 0, 0), BAD);
        }
        for (int wrong : new int[] {-1, 1, 8, LEAST, MOST}) {
            C.due("at(0, " + wrong + ", 0)", x.at(0, wrong, 0), BAD);
        }
        for (int wrong : new int[] {-1, 4, LEAST, MOST}) {
            C.due("at(0, 0, " + wrong + ")", x.at(0, 0, wrong), BAD);
        }
    }

    private static void coming() {
        C.about(13, "In an HOUR first BASKETS of it come to FLOOR 0");
        BreadString x = Checks.tower("p1a;p1b", "0010h;2910g");
        dueAt(x, 0, 0, 0, 9, 2, 0);
        dueAt(x, 28, 1, NONE, 10, 1, 0);
        dueAt(x, 29, 1, 0, 9, 2, 0);
        C.about(13, "BASKETS that are on a FLOOR, by numbers");
        BreadString two = Checks.tower("p3a", "0110h;0110g");
        dueAt(two, 1, 0, 0, 7, 2, 0);
        dueAt(two, 1, 1, 0, 10, 1, 1);
    }

    private static void tangled() {
        C.about(13, "one is TANGLED, if one of a lesser number is on the same FLOOR: nothing is done to it");
        BreadString x = Checks.tower("p0a", Checks.many(8, "0010h"));
        for (int b = 0; b < 8; b++) {
            C.due("tangled in hour 0, basket " + b, x.at(0, b, 3), b == 0 ? 0 : 1);
            C.due("free in its turn", x.at(b, b, 3), 0);
            C.due("one by one, basket " + b, x.comes(b), b + 1);
        }
        BreadString sharp = Checks.windy("c3a", "0010h;0011g", 0);
        sharp.set(0, 0);
        dueAt(sharp, 0, 0, 0, 2, 2, 0);
        dueAt(sharp, 0, 1, 0, 11, 1, 1);
        dueAt(sharp, 1, 1, 0, 8, 2, 0);
        C.about(13, "if one of a lesser number is on the same FLOOR (not ahead of it, nor gone up)");
        BreadString apart = Checks.tower("p0a;p0b", "0110h;0010g");
        dueAt(apart, 1, 0, 0, 10, 1, 0);
        dueAt(apart, 1, 1, 1, 10, 1, 0);
        BreadString gone = Checks.tower("p0a", "0010h;0110g");
        dueAt(gone, 1, 1, 0, 10, 1, 0);
        dueAt(gone, 2, 1, 1, 10, 1, 0);
        C.about(13, "whether it is TANGLED (not sent yet: no)");
        BreadString late = Checks.tower("p0a", "0110h;0110g");
        dueAt(late, 1, 1, 0, 10, 1, 1);
        dueAt(late, 0, 1, NONE, 10, 1, 0);
        dueAt(late, 3, 1, 1, 10, 1, 0);
    }

    private static void half() {
        C.about(13, "at the convent, with a WIND in that HOUR, its LOAD is half (cut)");
        int[] loads = {0, 1, 2, 3, 98, 99};
        for (int load : loads) {
            BreadString x = Checks.windy("c0a", "05" + load / 10 + load % 10 + "h", 5);
            C.due("half of " + load, x.at(5, 0, 1), load / 2);
        }
        for (int other : new int[] {4, 6}) {
            C.due("wind in hour " + other, Checks.windy("c0a", "0510h", other).at(6, 0, 1), 10);
        }
        for (String sort : new String[] {"p", "m", "l"}) {
            C.due("at " + sort, Checks.windy(sort + "0a", "0510h", 5, 6).at(7, 0, 1), 10);
        }
        C.due("each hour again", Checks.windy("c0a;c0a", "0041h", 0, 1).at(1, 0, 1), 10);
        C.due("once an hour", Checks.windy("c0a", "0041h", 0, 0, 0).at(0, 0, 1), 20);
        C.about(13, "its LOAD is half. Then the FLOOR takes");
        dueAt(Checks.windy("c5a", "0009h", 0), 0, 0, 0, 0, 2, 0);
        dueAt(Checks.windy("c3a", "0009h", 0), 0, 0, 0, 1, 2, 0);
        C.about(13, "there is a LOAD (half of 1 is none)");
        dueAt(Checks.windy("c3a", "0001h", 0), 0, 0, 0, 0, 1, 0);
        dueAt(Checks.windy("c3a", "0002h", 0), 0, 0, 0, 0, 2, 0);
    }

    private static void sundays() {
        C.about(13, "Then, but for SUNDAYS");
        BreadString x = Checks.holy("c3a;p2b", "0010h;0110g", 0);
        x.wind(0);
        dueAt(x, 0, 0, 0, 5, 1, 0);
        C.due("not bitten on a Sunday, so hungry", x.at(1, 1, 1), 7);
        C.due("the next hour is none", x.at(1, 0, 1), 3);
        BreadString twice = Checks.holy("p3a", "0010h", 0, 0);
        dueAt(twice, 0, 0, 0, 10, 1, 0);
        twice.back(1);
        dueAt(twice, 0, 0, 0, 10, 1, 0);
        C.due("mice rest too", Checks.holy("m3a", "0010h", 0).note(0, 0), 7);
    }

    private static void whetherItBites() {
        C.about(16, "if it BITES 1 or more");
        for (String sort : new String[] {"p", "m", "l", "c"}) {
            C.due(sort + "0", Checks.tower(sort + "0a", "0010h").bites(0, 0), 0);
            C.due(sort + "1", Checks.tower(sort + "1a", "0010h").bites(0, 0), 1);
        }
        C.dueNote("no word for no bite", Checks.tower("p0a;m0b;l0c;c0d", "0010hg"), 0, "g");
        C.about(16, "there is a LOAD");
        C.due("load 0", Checks.tower("p3a", "0000h").bites(0, 0), 0);
        C.dueNote("load 0", Checks.tower("p3a", "0000h"), 0, "h");
        C.due("load 1", Checks.tower("p3a", "0001h").bites(0, 0), 1);
        C.dueNote("load 1", Checks.tower("p3a", "0001h"), 0, "ha");
        C.due("nothing bitten of nothing: still hungry", Checks.tower("p3a", "0000h;0105g").bites(0, 1), 3);
        C.dueNote("all eaten on the way", Checks.tower("p5a;p5b", "0005h"), 0, "ha");
    }

    private static void hungry() {
        C.about(16, "HUNGRY (it has not bitten yet, or more than HUNGER HOURS ago)");
        for (int hunger = 0; hunger <= 9; hunger++) {
            for (int hour = 1; hour <= 12; hour++) {
                BreadString x = Checks.tower("p1a", "0010h;" + hour / 10 + hour % 10 + "10g");
                x.set(0, hunger);
                String name = "HUNGER " + hunger + ", second basket in hour " + hour;
                C.due(name, x.bites(0, 0), hour > hunger ? 2 : 1);
            }
        }
        BreadString first = Checks.tower("p1a", "0010h;0310g;0410f");
        C.due("3 at first: not behind 3 hours", first.at(3, 1, 1), 10);
        C.due("but behind 4", first.at(4, 2, 1), 9);
        BreadString again = Checks.tower("p1a", "0010h;0410g;0710f;0810e");
        C.due("since the latest bite, not the first", again.at(7, 2, 1), 10);
        C.due("and then again", again.at(8, 3, 1), 9);
        C.due("each floor by itself", Checks.tower("p1a;p1b", "0010h").count(6), 2);
    }

    private static void howMuchItTakes() {
        C.about(16, "it takes what it BITES, or what there is");
        for (int bite = 1; bite <= 9; bite++) {
            for (int load = bite - 1; load <= bite + 1; load++) {
                BreadString x = Checks.tower("p" + bite + "a", "00" + load / 10 + load % 10 + "h");
                C.due(bite + " of " + load, x.bites(0, 1), Math.min(bite, load));
                C.due(bite + " of " + load + ", left", x.at(0, 0, 1), load - Math.min(bite, load));
            }
        }
    }

    private static void words() {
        C.about(14, "adds its WORD to the end of the NOTE; mice write it over the first letter");
        C.dueNote("behind one letter", Checks.tower("p1a", "0010h"), 0, "ha");
        C.dueNote("behind three", Checks.tower("p1a", "0010hgf"), 0, "hgfa");
        C.dueNote("mice, one letter", Checks.tower("m1a", "0010h"), 0, "a");
        C.dueNote("mice, three", Checks.tower("m1a", "0010hgf"), 0, "agf");
        C.dueNote("mice twice", Checks.tower("m1a;m1b", "0010hg"), 0, "bg");
        C.dueNote("lovers and the convent", Checks.tower("l1a;c1b", "0010h"), 0, "hab");
        for (char word = 'a'; word <= 'h'; word++) {
            C.dueNote("word " + word, Checks.tower("p1" + word, "0010h"), 0, "h" + word);
        }
    }

    private static void goesUp() {
        C.about(13, "Then BASKETS that are not TANGLED go up by one FLOOR, for the next HOUR");
        BreadString x = Checks.tower(Checks.many(9, "p0a"), "0010h;0010g");
        for (int hour = 0; hour <= 9; hour++) {
            C.due("floor in hour " + hour, x.at(hour, 0, 0), hour);
            C.due("floor of the tangled in hour " + hour, x.at(hour, 1, 0), Math.max(0, hour - 1));
        }
        C.due("up", x.comes(0), 9);
        C.due("up, an hour later", x.comes(1), 10);
        C.due("still up", x.at(39, 0, 0), 9);
    }

    private static void lovers() {
        C.about(15, "from lovers, who do not let go of it in the first HOUR in which it is there");
        C.due("two hours", Checks.tower("l0a", "0010h").comes(0), 2);
        C.due("two hours each", Checks.tower(Checks.many(9, "l0a"), "0010h").comes(0), 18);
        C.due("between others", Checks.tower("p0a;l0a;c0a", "0010h").comes(0), 4);
        C.about(15, "unless that is a SUNDAY");
        C.due("the first hour", Checks.holy("l0a", "0110h", 1).comes(0), 2);
        C.due("the second hour", Checks.holy("l0a", "0110h", 2).comes(0), 3);
        C.due("the hour ahead", Checks.holy("l0a", "0110h", 0).comes(0), 3);
        C.due("both", Checks.holy("l0a", "0110h", 1, 2).comes(0), 2);
        C.due("on the second floor alone", Checks.holy("l0a;l0b", "0010h", 2).comes(0), 3);
        C.about(14, "HUNGRY, at lovers in both HOURS");
        BreadString x = Checks.tower("l2a", "0005h");
        C.dueNote("HUNGER 3", x, 0, "ha");
        x.set(0, 0);
        C.dueNote("HUNGER 0", x, 0, "haa");
        C.due("load", x.at(1, 0, 1), 1);
        x.set(0, 1);
        C.dueNote("HUNGER 1", x, 0, "ha");
        x.set(0, 0);
        x.sunday(1);
        C.dueNote("the second hour is a Sunday", x, 0, "ha");
    }

    private static void loversAndTangles() {
        C.about(15, "the first HOUR in which it is there and not TANGLED, unless that is a SUNDAY");
        String two = "0010h;0010g";
        C.due("tangled for two hours, then two", Checks.tower("l0a", two).comes(1), 4);
        C.due("its first free hour is a Sunday", Checks.holy("l0a", two, 2).comes(1), 3);
        C.due("a Sunday while it was tangled", Checks.holy("l0a", two, 1).comes(1), 4);
        C.due("a Sunday for the other alone", Checks.holy("l0a", two, 0).comes(1), 3);
        C.due("and the other", Checks.holy("l0a", two, 0).comes(0), 1);
        String later = "0110h;0010g";
        C.due("tangled behind its first hour: not held again", Checks.tower("l0a", later).comes(1), 4);
        C.due("the later, of a lesser number, goes its way", Checks.tower("l0a", later).comes(0), 3);
        C.due("a Sunday behind its first hour is nothing", Checks.holy("l0a", later, 3).comes(1), 4);
    }

    private static void wear() {
        C.about(14, "With each so-many-th FLOOR that it leaves, as WEAR tells, the first letter is worn off");
        for (int wear = 1; wear <= 9; wear++) {
            for (int floors = 1; floors <= 9; floors++) {
                BreadString x = Checks.tower(Checks.many(floors, "p0a"), "0010abc");
                x.set(1, wear);
                String left = "abc".substring(Math.min(2, floors / wear));
                C.dueNote("WEAR " + wear + ", " + floors + " floors", x, 0, left);
            }
        }
        C.about(14, "4 at first");
        C.dueNote("three floors", Checks.tower(Checks.many(3, "p0a"), "0010abc"), 0, "abc");
        C.dueNote("four", Checks.tower(Checks.many(4, "p0a"), "0010abc"), 0, "bc");
        C.dueNote("seven", Checks.tower(Checks.many(7, "p0a"), "0010abc"), 0, "bc");
        C.dueNote("eight", Checks.tower(Checks.many(8, "p0a"), "0010abc"), 0, "c");
        C.about(14, "FLOOR that it leaves (not each HOUR)");
        C.dueNote("lovers hold it", Checks.tower("l0a;l0a", "0010abc"), 0, "abc");
    }

    private static void wornDown() {
        C.about(14, "is worn off, if there are two or more");
        for (String told : new String[] {"h", "hg", "hgf"}) {
            BreadString x = Checks.tower("p0a", "0010" + told);
            x.set(1, 1);
            C.dueNote("of " + told, x, 0, told.length() == 1 ? told : told.substring(1));
        }
        BreadString grown = Checks.tower("p1a;p0b;p1c", "0010h");
        grown.set(1, 1);
        C.due("a bite makes two", grown.at(0, 0, 2), 2);
        C.due("one is left", grown.at(1, 0, 2), 1);
        C.due("and stays", grown.at(2, 0, 2), 2);
        C.dueNote("at last", grown, 0, "c");
        BreadString mice = Checks.tower("p0a;m1b;m1c", "0010hg");
        mice.set(1, 1);
        C.dueNote("mice write over the one that is left", mice, 0, "c");
    }

    private static void stands() {
        C.about(13, "on which FLOOR it is (NONE: not sent yet; as many as there are FLOORS: it has come up)");
        BreadString x = Checks.windy("c2a;m1b", "0250hgf", 2);
        dueAt(x, 0, 0, NONE, 50, 3, 0);
        dueAt(x, 1, 0, NONE, 50, 3, 0);
        dueAt(x, 2, 0, 0, 23, 4, 0);
        dueAt(x, 3, 0, 1, 22, 4, 0);
        dueAt(x, 4, 0, 2, 22, 4, 0);
        dueAt(x, 39, 0, 2, 22, 4, 0);
        C.about(13, "what LOAD is left; how many letters (both as told, if it is not sent yet)");
        BreadString late = Checks.tower("", "2907hg");
        dueAt(late, 28, 0, NONE, 7, 2, 0);
        dueAt(late, 29, 0, 0, 7, 2, 0);
        C.about(13, "behind all bites");
        BreadString both = Checks.tower("p1a;p1b", "0110h;0010g");
        dueAt(both, 1, 0, 0, 10, 1, 0);
        dueAt(both, 1, 1, 1, 8, 3, 0);
    }

    private static void notesAtLast() {
        C.about(14, "Of the NOTE, as it is at last, the i-th letter (0 to 11); NONE. BAD");
        String nine = "p1a;p1b;p1c;p1d;p1e;p1f;p1g;p1h;p1a";
        BreadString x = Checks.tower(nine, "0099fgh");
        x.set(1, 9);
        C.dueNote("eleven letters", x, 0, "ghabcdefgha");
        C.due("note(0, 10)", x.note(0, 10), 0);
        C.due("note(0, 11)", x.note(0, 11), NONE);
        for (int wrong : new int[] {-1, 12, LEAST, MOST}) {
            C.due("note(0, " + wrong + ")", x.note(0, wrong), BAD);
        }
        for (int wrong : new int[] {-1, 1, LEAST, MOST}) {
            C.due("note(" + wrong + ", 0)", x.note(wrong, 0), BAD);
        }
        BreadString longer = Checks.tower("l1a;l1b;l1c;l1d;l1e;p0f", "0099fgh");
        longer.set(0, 0);
        longer.set(1, 9);
        C.dueNote("the first twelve of thirteen", longer, 0, "fghaabbccdde");
        C.due("note(0, 11)", longer.note(0, 11), 4);
        C.due("how many", longer.at(39, 0, 2), 13);
        BreadString late = Checks.tower(FIVE_LOVERS + ";p2b;p3c", "2910h");
        late.set(1, 9);
        C.due("not up", late.comes(0), NONE);
        C.dueNote("its note at last", late, 0, "hb");
        late.set(1, 6);
        C.dueNote("worn as it leaves in hour 39", late, 0, "b");
        C.due("not yet behind the bites of hour 39", late.at(39, 0, 2), 2);
    }

    private static void comesUp() {
        C.about(15, "From the last FLOOR it COMES UP, in the next HOUR (40, too)");
        C.due("hour 1", Checks.tower("p0a", "0010h").comes(0), 1);
        C.due("hour 39", Checks.tower(FIVE_LOVERS, "2910h").comes(0), 39);
        C.due("hour 40", Checks.tower(FIVE_LOVERS + ";p0a", "2910h").comes(0), 40);
        C.due("in hour 39 on the last floor", Checks.tower(FIVE_LOVERS + ";p0a", "2910h").at(39, 0, 0), 5);
        C.about(15, "NONE: not by HOUR 40");
        C.due("hour 41", Checks.tower(FIVE_LOVERS + ";p0a;p0a", "2910h").comes(0), NONE);
        C.due("still on a floor", Checks.tower(FIVE_LOVERS + ";p0a;p0a", "2910h").at(39, 0, 0), 5);
        C.due("held in hour 39", Checks.tower(FIVE_LOVERS + ";l0a", "2910h").comes(0), NONE);
        C.due("not on Sunday 39", Checks.holy(FIVE_LOVERS + ";l0a", "2910h", 39).comes(0), 40);
        BreadString queue = Checks.tower("l0a;l0a", Checks.many(8, "2910h"));
        C.due("the fifth of a queue, in hour 41", queue.comes(4), NONE);
        C.due("the fourth", queue.comes(3), 39);
        for (int wrong : new int[] {-1, 8, LEAST, MOST}) {
            C.due("comes(" + wrong + ")", queue.comes(wrong), BAD);
        }
    }

    private static void noFloors() {
        C.about(15, "With no FLOORS a BASKET COMES UP in its own HOUR");
        BreadString x = Checks.tower("", "0010h;2999g;0010f");
        C.due("hour 0", x.comes(0), 0);
        C.due("hour 29", x.comes(1), 29);
        C.due("no tangle", x.comes(2), 0);
        dueAt(x, 0, 2, 0, 10, 1, 0);
        dueAt(x, 28, 1, NONE, 99, 1, 0);
        dueAt(x, 29, 1, 0, 99, 1, 0);
        C.due("famine", x.famine(), 0);
    }

    private static void bites() {
        C.about(16, "How often it bit, how much in all. BAD");
        BreadString x = Checks.tower("p9a;p0b", "0099h;0403g;0800f;0909e");
        C.due("often", x.bites(0, 0), 3);
        C.due("much", x.bites(0, 1), 9 + 3 + 9);
        C.due("never", x.bites(1, 0), 0);
        C.due("nothing", x.bites(1, 1), 0);
        for (int wrong : new int[] {-1, 2, LEAST, MOST}) {
            C.due("bites(" + wrong + ", 0)", x.bites(wrong, 0), BAD);
            C.due("bites(0, " + wrong + ")", x.bites(0, wrong), BAD);
        }
        C.due("in hour 39", Checks.tower(FIVE_LOVERS + ";p7a;p7b", "2910h").bites(5, 1), 7);
        C.due("not in hour 40", Checks.tower(FIVE_LOVERS + ";p7a;p7b", "2910h").bites(6, 1), 0);
        C.due("no baskets", Checks.tower("p7a", "").bites(0, 0), 0);
    }

    private static void famine() {
        C.about(17, "how much LOAD was sent in all (by HOUR 39), less what came up by HOUR 40");
        C.due("none", new BreadString().famine(), 0);
        C.due("no baskets", Checks.tower("p9a", "").famine(), 0);
        C.due("nothing sent", Checks.tower("p9a", "0000h").famine(), 0);
        C.due("all eaten", Checks.tower("p9a", "0009h").famine(), 9);
        C.due("up in hour 40", Checks.tower(FIVE_LOVERS + ";p3a", "2910h").famine(), 3);
        C.due("up in hour 41", Checks.tower(FIVE_LOVERS + ";p3a;p0a", "2910h").famine(), 10);
        C.due("none up", Checks.tower(Checks.many(9, "l0a"), Checks.many(8, "2999h")).famine(), 8 * 99);
        C.due("all up", Checks.tower("", Checks.many(8, "2999h")).famine(), 0);
        C.due("wind", Checks.windy("c0a", "0099h", 0).famine(), 50);
    }

    private static void first() {
        C.about(18, "FIRST bite: in which HOUR; on which FLOOR; NONE. BAD");
        for (int wrong : new int[] {-1, 2, LEAST, MOST}) {
            C.due("first(" + wrong + ")", new BreadString().first(wrong), BAD);
        }
        BreadString x = Checks.tower("p1a", "0010h");
        C.due("hour 0", x.first(0), 0);
        C.due("floor 0", x.first(1), 0);
        x.sunday(0);
        C.due("no bite any more", x.first(0), NONE);
        C.due("nor a floor", x.first(1), NONE);
        x.wipe(0);
        C.due("no floors", x.first(0), NONE);
        BreadString late = Checks.tower(Checks.many(8, "l0a") + ";p1a", "2310h");
        C.due("hour 39", late.first(0), 39);
        C.due("floor 8", late.first(1), 8);
        BreadString never = Checks.tower(Checks.many(8, "l0a") + ";p1a", "2410h");
        C.due("hour 40 is none", never.first(0), NONE);
        C.due("no floor", never.first(1), NONE);
    }

    private static void greedy() {
        C.about(19, "the FLOOR that bit most in all, of like ones the least; NONE");
        C.due("no floors", new BreadString().greedy(), NONE);
        C.due("the last of nine", Checks.tower(Checks.many(8, "p1a") + ";p2a", "0099h").greedy(), 8);
        C.due("nine alike", Checks.tower(Checks.many(9, "p1a"), "0099h").greedy(), 0);
        C.due("two alike", Checks.tower("p1a;p2a;p2a", "0099h").greedy(), 1);
        C.due("none bit", Checks.tower("p0a;p9a", "0000h").greedy(), 0);
        C.due("most in all, not at once", Checks.tower("p4a;p6a", "0006h;0403g;0803g").greedy(), 0);
        C.due("what there was, not what it BITES", Checks.tower("p2a;p9a", "0003h").greedy(), 0);
    }
}
