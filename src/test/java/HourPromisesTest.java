/** Promises 13 to 19: at, note, comes, bites, famine, first, greedy, and with them what an hour does. */
public final class HourPromisesTest {
    private static final int NONE = -1, BAD = -2;
    private static final String LONG = "p0a;p0a;p0a;p0a;p0a;p0a;p0a;";
    private static final Checks C = new Checks();

    public static void main(String[] args) {
        promise13();
        promise13Tangles();
        promise13Lovers();
        promise13Winds();
        promise14();
        promise14Wear();
        promise14Long();
        promise15();
        promise16();
        promise17();
        promise18();
        promise19();
        C.end();
    }

    /** The row that at() answers for what = 0 to 3. */
    private static void dueAt(
        String name, BreadString x, int hour, int basket, int floor, int load, int letters, int tangled) {
        String call = name + " at(" + hour + ", " + basket + ", ";
        C.due(call + "0)", x.at(hour, basket, 0), floor);
        C.due(call + "1)", x.at(hour, basket, 1), load);
        C.due(call + "2)", x.at(hour, basket, 2), letters);
        C.due(call + "3)", x.at(hour, basket, 3), tangled);
    }

    private static void promise13() {
        BreadString x = Checks.tower("p3a;p2b", "0110h");
        dueAt("13 not sent", x, 0, 0, NONE, 10, 1, 0);
        dueAt("13 first", x, 1, 0, 0, 7, 2, 0);
        dueAt("13 second", x, 2, 0, 1, 5, 3, 0);
        dueAt("13 up", x, 3, 0, 2, 5, 3, 0);
        dueAt("13 last hour", x, 39, 0, 2, 5, 3, 0);
        C.due("13 hour -1", x.at(-1, 0, 0), BAD);
        C.due("13 hour 40", x.at(40, 0, 0), BAD);
        C.due("13 basket 1", x.at(0, 1, 0), BAD);
        C.due("13 basket -1", x.at(0, -1, 0), BAD);
        C.due("13 what 4", x.at(0, 0, 4), BAD);
        C.due("13 what -1", x.at(0, 0, -1), BAD);
        x.sunday(1);
        dueAt("13 Sunday", x, 1, 0, 0, 10, 1, 0);
        dueAt("13 behind Sunday", x, 2, 0, 1, 8, 2, 0);
        BreadString empty = Checks.tower("", "0510h");
        dueAt("13 no floors, not sent", empty, 4, 0, NONE, 10, 1, 0);
        dueAt("13 no floors, up", empty, 5, 0, 0, 10, 1, 0);
    }

    private static void promise13Tangles() {
        BreadString x = Checks.tower("p3a;p2b", "0010a;0010b;0110c");
        dueAt("13 ahead", x, 0, 0, 0, 7, 2, 0);
        dueAt("13 tangled", x, 0, 1, 0, 10, 1, 1);
        dueAt("13 goes on", x, 1, 0, 1, 5, 3, 0);
        dueAt("13 free, but not hungry", x, 1, 1, 0, 10, 1, 0);
        dueAt("13 tangled behind the second", x, 1, 2, 0, 10, 1, 1);
        dueAt("13 second up a floor", x, 2, 1, 1, 10, 1, 0);
        dueAt("13 third free", x, 2, 2, 0, 10, 1, 0);
        dueAt("13 first is up", x, 2, 0, 2, 5, 3, 0);
        BreadString apart = Checks.tower("p0a;p0b", "0010a;0110b;0010c");
        dueAt("13 tangled behind the first", apart, 0, 2, 0, 10, 1, 1);
        dueAt("13 then behind the second", apart, 1, 2, 0, 10, 1, 1);
        BreadString between = Checks.tower("p0a;p0b", "0110a;0010b;0110c");
        dueAt("13 tangled, with one on another floor between", between, 1, 2, 0, 10, 1, 1);
        BreadString late = Checks.tower("p3a", "0110a;0010b");
        dueAt("13 the greater number is alone", late, 0, 1, 0, 7, 2, 0);
        dueAt("13 and gone when the lesser comes", late, 1, 1, 1, 7, 2, 0);
        BreadString wind = Checks.tower("c0a", "0010a;0010b");
        wind.wind(0);
        dueAt("13 no wind for the tangled", wind, 0, 1, 0, 10, 1, 1);
    }

    private static void promise13Lovers() {
        BreadString x = Checks.tower("l3a;p0b", "0010h");
        dueAt("13 lovers bite", x, 0, 0, 0, 7, 2, 0);
        dueAt("13 lovers hold", x, 1, 0, 0, 7, 2, 0);
        dueAt("13 lovers let go", x, 2, 0, 1, 7, 2, 0);
        x.sunday(0);
        dueAt("13 not on a Sunday", x, 1, 0, 1, 10, 1, 0);
        x.back(1);
        x.set(0, 0);
        dueAt("13 lovers bite twice", x, 1, 0, 0, 4, 3, 0);
        BreadString two = Checks.tower("l0a", "0110a;0010b");
        dueAt("13 held in hour 0", two, 0, 1, 0, 10, 1, 0);
        dueAt("13 tangled when it would go", two, 1, 1, 0, 10, 1, 1);
        dueAt("13 still tangled", two, 2, 1, 0, 10, 1, 1);
        dueAt("13 free", two, 3, 1, 0, 10, 1, 0);
        dueAt("13 not held again", two, 4, 1, 1, 10, 1, 0);
        BreadString behind = Checks.tower("l0a", "0010a;0010b");
        dueAt("13 tangled hours are no first hour", behind, 3, 1, 0, 10, 1, 0);
        dueAt("13 up after its own two", behind, 4, 1, 1, 10, 1, 0);
        BreadString pair = Checks.tower("l0a;l0b", "0010a");
        dueAt("13 each floor of lovers holds", pair, 3, 0, 1, 10, 1, 0);
        dueAt("13 and lets go", pair, 4, 0, 2, 10, 1, 0);
    }

    private static void promise13Winds() {
        BreadString x = Checks.tower("c2a;p0b", "0011h");
        dueAt("13 no wind", x, 0, 0, 0, 9, 2, 0);
        x.wind(0);
        dueAt("13 half, cut, then a bite", x, 0, 0, 0, 3, 2, 0);
        x.wind(0);
        dueAt("13 two winds in an hour are one", x, 0, 0, 0, 3, 2, 0);
        x.sunday(0);
        dueAt("13 wind on a Sunday", x, 0, 0, 0, 5, 1, 0);
        BreadString plain = Checks.tower("p0a;m0b;l0c", "0010h");
        for (int hour = 0; hour < 4; hour++) {
            plain.wind(hour);
        }
        dueAt("13 wind elsewhere", plain, 4, 0, 3, 10, 1, 0);
        BreadString one = Checks.tower("c2a;p5b", "0001h");
        one.wind(0);
        dueAt("13 nothing left to bite", one, 1, 0, 1, 0, 1, 0);
        BreadString crumb = Checks.tower("p9a", "0004h");
        dueAt("13 takes what there is", crumb, 0, 0, 0, 0, 2, 0);
    }

    private static void promise14() {
        BreadString x = Checks.tower("p3a;m2b;p1c", "0010hgf");
        C.dueNote("14 words at the end, mice over the first", x, 0, "bgfac");
        C.due("14 letter", x.note(0, 4), 2);
        C.due("14 none", x.note(0, 5), NONE);
        C.due("14 i 11", x.note(0, 11), NONE);
        C.due("14 i 12", x.note(0, 12), BAD);
        C.due("14 i -1", x.note(0, -1), BAD);
        C.due("14 basket 1", x.note(1, 0), BAD);
        C.due("14 basket -1", x.note(-1, 0), BAD);
        C.dueNote("14 bites of 0 add no word", Checks.tower("p0a;m0b", "0010h"), 0, "h");
        C.dueNote("14 no load, no word", Checks.tower("p3a;m2b", "0000h"), 0, "h");
        BreadString hungry = Checks.tower("p3a", "0010h;0310h;0410h");
        C.dueNote("14 not hungry", hungry, 1, "h");
        C.dueNote("14 hungry again", hungry, 2, "ha");
        hungry.set(0, 4);
        C.dueNote("14 more hours than that", hungry, 2, "h");
        hungry.set(0, 2);
        C.dueNote("14 fewer", hungry, 1, "ha");
    }

    private static void promise14Wear() {
        BreadString x = Checks.tower("p0a;p0a;p0a;p0a", "0010abc");
        C.dueNote("14 the fourth floor wears", x, 0, "bc");
        C.due("14 not yet in the fourth", x.at(3, 0, 2), 3);
        C.due("14 behind it", x.at(4, 0, 2), 2);
        x.set(1, 2);
        C.dueNote("14 each second", x, 0, "c");
        x.set(1, 1);
        C.dueNote("14 each, but for the last letter", x, 0, "c");
        C.due("14 letters in hour 1", x.at(1, 0, 2), 2);
        C.due("14 letters in hour 3", x.at(3, 0, 2), 1);
        x.set(1, 5);
        C.dueNote("14 each fifth", x, 0, "abc");
        BreadString mice = Checks.tower("p0a;p0a;m1h", "0010abc");
        mice.set(1, 2);
        C.dueNote("14 mice write over the first that is left", mice, 0, "hc");
        BreadString late = Checks.tower("l0a;l0a;l0a;l0a;l0a;l0a;l0a;l0a;l0a", "2810abc");
        late.set(1, 6);
        C.dueNote("14 worn as it leaves in hour 39", late, 0, "bc");
        C.due("14 not behind the bites of 39", late.at(39, 0, 2), 3);
    }

    private static void promise14Long() {
        BreadString x = Checks.tower("l1a;l1b;l1c;l1d;l1e;l1f;l1g;l1h;l1a", "0099abc");
        x.set(0, 0);
        x.set(1, 9);
        C.due("14 letters of the longest note", x.at(39, 0, 2), 20);
        C.dueNote("14 the first twelve", x, 0, "bcaabbccddee");
        x.sheet(0, 0, 60);
        C.due("14 all are written", x.write(0, 0), 20);
        C.due("14 the last", x.get(0, 0, 19), 0);
        C.due("14 the one ahead of h", x.get(0, 0, 15), 6);
        C.due("14 bites", x.count(6), 18);
    }

    private static void promise15() {
        BreadString x = Checks.tower("p0a;l0a", "0010h;2910h");
        C.due("15 lovers take an hour more", x.comes(0), 3);
        C.due("15 the other", x.comes(1), 32);
        C.due("15 basket 2", x.comes(2), BAD);
        C.due("15 basket -1", x.comes(-1), BAD);
        C.due("15 no floors", Checks.tower("", "0710h").comes(0), 7);
        C.due("15 hour 40", Checks.tower(LONG + "l0a;l0a", "2910h").comes(0), 40);
        C.due("15 not by hour 40", Checks.tower(LONG.substring(4) + "l0a;l0a;l0a", "2910h").comes(0), NONE);
        BreadString sunday = Checks.tower("l0a", "0010h");
        sunday.sunday(0);
        C.due("15 Sunday", sunday.comes(0), 1);
        sunday.back(1);
        sunday.sunday(1);
        C.due("15 Sunday in the second hour", sunday.comes(0), 2);
    }

    private static void promise16() {
        BreadString x = Checks.tower("p3a;p0b;m9c", "0010h;0310h;0411h");
        C.due("16 often", x.bites(0, 0), 2);
        C.due("16 much", x.bites(0, 1), 6);
        C.due("16 never", x.bites(1, 0), 0);
        C.due("16 nothing", x.bites(1, 1), 0);
        C.due("16 what there is", x.bites(2, 1), 7 + 8);
        BreadString late = Checks.tower("l0a;l0a;l0a;l0a;l0a;p5b;p6c;p7d;p8e", "2999h");
        C.due("16 a bite in hour 39", late.bites(5, 1), 5);
        C.due("16 none in hour 40", late.bites(6, 1), 0);
        C.due("16 floor 3", x.bites(3, 0), BAD);
        C.due("16 floor -1", x.bites(-1, 0), BAD);
        C.due("16 what 2", x.bites(0, 2), BAD);
        C.due("16 what -1", x.bites(0, -1), BAD);
    }

    private static void promise17() {
        C.due("17 none", new BreadString().famine(), 0);
        C.due("17 bites", Checks.tower("p3a;p2b", "0010h;0110h").famine(), 5);
        BreadString wind = Checks.tower("c3a", "0011h");
        wind.wind(0);
        C.due("17 wind and bite", wind.famine(), 9);
        C.due("17 up in hour 40", Checks.tower(LONG + "l0a;l0a", "2910h").famine(), 0);
        C.due("17 not up", Checks.tower(LONG.substring(4) + "l0a;l0a;l0a", "2910h;0007h").famine(), 10);
        C.due("17 no floors", Checks.tower("", "0010h").famine(), 0);
    }

    private static void promise18() {
        C.due("18 none", new BreadString().first(0), NONE);
        BreadString x = Checks.tower("p0a;p3b;p1c", "0210h");
        C.due("18 hour", x.first(0), 3);
        C.due("18 floor", x.first(1), 1);
        C.due("18 what 2", x.first(2), BAD);
        C.due("18 what -1", x.first(-1), BAD);
        x.sunday(3);
        C.due("18 hour behind Sunday", x.first(0), 4);
        C.due("18 floor behind Sunday", x.first(1), 2);
        BreadString both = Checks.tower("p1a;p1b;p1c", "0110h;0010g");
        both.sunday(0);
        C.due("18 two in an hour", both.first(0), 1);
        C.due("18 that of the lesser basket", both.first(1), 0);
        BreadString turned = Checks.tower("p1a;p1b;p1c", "0010h;0110g");
        turned.sunday(0);
        C.due("18 by baskets, not by floors", turned.first(1), 1);
        BreadString calm = Checks.tower("p0a", "0010h");
        C.due("18 no bite", calm.first(0), NONE);
        C.due("18 no floor", calm.first(1), NONE);
    }

    private static void promise19() {
        C.due("19 no floors", new BreadString().greedy(), NONE);
        C.due("19 most", Checks.tower("p3a;p4b;p1c", "0010h").greedy(), 1);
        C.due("19 of like ones", Checks.tower("p3a;p4b;m4c", "0020h").greedy(), 1);
        C.due("19 in all, not each", Checks.tower("p3a;p5b", "0003h;0403h;0809h").greedy(), 0);
        C.due("19 a bite of 1", Checks.tower("p0a;p1b", "0010h").greedy(), 1);
        C.due("19 none bit", Checks.tower("p0a;p0b", "0010h").greedy(), 0);
        C.due("19 no baskets", Checks.tower("p3a", "").greedy(), 0);
        C.due("19 no bread", Checks.tower("m2a;l3b", "0000h").greedy(), 0);
        C.due("19 no floors, but a basket", Checks.tower("", "0010h").greedy(), NONE);
        C.due("19 floors with a fault", Checks.tower("p3a;", "0010h").greedy(), NONE);
        BreadString rest = Checks.tower("p3a;p4b", "0010h");
        rest.sunday(0);
        rest.sunday(1);
        C.due("19 Sundays alone", rest.greedy(), 0);
        rest.back(1);
        C.due("19 one Sunday less", rest.greedy(), 1);
        rest.wipe(1);
        C.due("19 baskets wiped", rest.greedy(), 0);
        rest.wipe(0);
        C.due("19 floors wiped", rest.greedy(), NONE);
    }
}
