/** Promises 24 to 30: seen, forget, never, was, ask, gust, week. */
public final class SeenPromisesTest {
    private static final int NONE = -1, BAD = -2, FULL = -4;
    private static final String LATE = "l0a;l0a;l0a;l0a;l0a;l0a";
    private static final Checks C = new Checks();

    public static void main(String[] args) {
        promise24();
        promise25();
        promise26();
        promise27();
        promise28();
        promise29();
        promise29Refusals();
        promise30();
        C.end();
    }

    private static void promise24() {
        BreadString x = new BreadString();
        C.due("24 basket 8", x.seen(8, 0, 0), BAD);
        C.due("24 basket -1", x.seen(-1, 0, 0), BAD);
        C.due("24 i 12", x.seen(0, 12, 0), BAD);
        C.due("24 i -1", x.seen(0, -1, 0), BAD);
        C.due("24 letter 9", x.seen(0, 0, 9), BAD);
        C.due("24 letter -1", x.seen(0, 0, -1), BAD);
        C.due("24 none", x.count(7), 0);
        C.due("24 the greatest", x.seen(7, 11, 8), 1);
        for (int many = 2; many <= 8; many++) {
            C.due("24 one more", x.seen(0, 0, 0), many);
        }
        C.due("24 FULL", x.seen(0, 0, 0), FULL);
        C.due("24 BAD goes ahead", x.seen(0, 0, 9), BAD);
        C.due("24 eight", x.count(7), 8);
    }

    private static void promise25() {
        BreadString x = Checks.tower("p1a", "0005h");
        C.due("25 none", x.forget(), 0);
        x.seen(0, 0, 0);
        x.seen(0, 1, 5);
        C.due("25 what was seen counts", x.was(0, 0), 0);
        C.due("25 two", x.forget(), 2);
        C.due("25 gone", x.count(7), 0);
        C.due("25 it counts no more", x.was(0, 0), 1023);
        x.seen(0, 1, 0);
        C.due("25 nor behind a new one", x.was(0, 0), 1022);
    }

    private static void promise26() {
        BreadString x = Checks.tower("c0a;p5b", "0001h");
        C.due("26 no winds", x.never(), 0);
        x.wind(0);
        x.wind(9);
        C.due("26 nothing seen", x.never(), 3);
        x.seen(0, 1, 1);
        C.due("26 a word that no wind took", x.never(), 1);
        x.forget();
        x.seen(0, 1, 8);
        C.due("26 no word", x.never(), 2);
        x.seen(0, 0, 7);
        C.due("26 all that was seen", x.never(), 2);
        x.seen(0, 0, 6);
        C.due("26 what cannot be", x.never(), 0);
        x.forget();
        x.wind(0);
        x.seen(0, 1, 1);
        C.due("26 another like it blows on", x.never(), 0);
        x.forget();
        x.seen(1, 0, 8);
        C.due("26 of a basket that there is not: never", x.never(), 0);
        C.due("26 winds stay", x.count(4), 3);
    }

    private static void promise27() {
        BreadString x = Checks.tower("p2a;m3b", "0003h");
        C.due("27 all bites", x.was(0, 0), 1023);
        C.due("27 all words", x.was(0, 1), 255);
        x.seen(0, 0, 1);
        C.due("27 mice had bread", x.was(0, 0), 7);
        C.due("27 mice bit", x.was(1, 0), 1022);
        C.due("27 what mice spell", x.was(1, 1), 2);
        C.due("27 any word of the other", x.was(0, 1), 255);
        x.seen(0, 1, 0);
        C.due("27 and the plain bit", x.was(0, 0), 6);
        C.due("27 its word", x.was(0, 1), 1);
        x.seen(0, 2, 8);
        C.due("27 no third letter", x.was(0, 0), 6);
        C.due("27 bites stay", x.floor(0, 1), 2);
        C.due("27 words stay", x.floor(0, 2), 0);
        C.due("27 floor 2", x.was(2, 0), BAD);
        C.due("27 floor -1", x.was(-1, 0), BAD);
        C.due("27 what 2", x.was(0, 2), BAD);
        C.due("27 what -1", x.was(0, -1), BAD);
        x.seen(1, 0, 8);
        C.due("27 of a basket that there is not: never", x.was(0, 0), 0);
        C.due("27 nor a word", x.was(0, 1), 0);
    }

    private static void promise28() {
        BreadString x = Checks.tower("p2a", "0001h;0409h");
        C.due("28 floor 1", x.ask(1), BAD);
        C.due("28 floor -1", x.ask(-1), BAD);
        C.due("28 the one that tells all bites apart", x.ask(0), 1);
        C.due("28 bites stay", x.floor(0, 1), 2);
        x.seen(0, 1, 8);
        C.due("28 of like ones the least", x.ask(0), 0);
        x.forget();
        x.seen(0, 1, 0);
        C.due("28 of those that may have been", x.ask(0), 1);
        x.seen(0, 1, 5);
        C.due("28 of none, all baskets are alike", x.ask(0), 0);
        C.due("28 no baskets", Checks.tower("p2a", "").ask(0), NONE);
        BreadString shield = Checks.tower("p2a;p0b", "0009h;0009g;0509f");
        C.due("28 of like ones that tell, the least", shield.ask(0), 0);
        C.due("28 floor 1 with a like one", shield.ask(1), 0);
        BreadString halved = Checks.tower("p0a;c0b", "0004h;0409g");
        halved.wind(1);
        C.due("28 what is left at last counts", halved.ask(0), 1);
        BreadString some = Checks.tower("p2a", "0002h;0402g");
        some.seen(1, 1, 0);
        C.due("28 heaps alike", some.ask(0), 0);
    }

    private static void dueGust(String name, BreadString x, int c, int much, long above, long below) {
        C.due("29 " + name + ", above", x.gust(c, 0, much, 0), above);
        C.due("29 " + name + ", below", x.gust(c, 0, much, 1), below);
    }

    private static void promise29() {
        BreadString x = Checks.tower("c0a;c0b", "0010h");
        dueGust("no winds", x, 4, 10, 1, 1);
        dueGust("no winds, too much", x, 4, 11, 0, 1);
        x.wind(0);
        dueGust("three of four", x, 4, 6, 3, 4);
        dueGust("sure", x, 4, 5, 1, 1);
        dueGust("not to be", x, 4, 11, 0, 1);
        dueGust("never a wind", x, 0, 10, 1, 1);
        dueGust("always a wind", x, 16, 6, 0, 1);
        dueGust("odd", x, 5, 10, 11, 16);
        x.wind(0);
        dueGust("two in one hour", x, 4, 6, 9, 16);
        x.wind(1);
        dueGust("three", x, 4, 10, 27, 64);
        dueGust("half once", x, 4, 5, 27 + 9 + 21, 64);
        x.wind(9);
        dueGust("one that is nowhere", x, 4, 10, 27, 64);
        x.wind(10);
        x.wind(11);
        dueGust("six", x, 5, 10, 11 * 11 * 11, 4096);
        C.due("29 winds stay", x.count(4), 6);
        dueGust("does not come up", Checks.tower(LATE, "2910h"), 4, 0, 0, 1);
        dueGust("no floors", Checks.tower("", "2910h"), 4, 10, 1, 1);
    }

    private static void promise29Refusals() {
        long bad = Long.MIN_VALUE + 2;
        BreadString x = Checks.tower("c0a", "0010h");
        C.due("29 c 17", x.gust(17, 0, 0, 0), bad);
        C.due("29 c -1", x.gust(-1, 0, 0, 0), bad);
        C.due("29 basket 1", x.gust(4, 1, 0, 0), bad);
        C.due("29 basket -1", x.gust(4, -1, 0, 0), bad);
        C.due("29 much 100", x.gust(4, 0, 100, 0), bad);
        C.due("29 much -1", x.gust(4, 0, -1, 0), bad);
        C.due("29 what 2", x.gust(4, 0, 0, 2), bad);
        C.due("29 what -1", x.gust(4, 0, 0, -1), bad);
    }

    private static void promise30() {
        // 1103515245 and 12345 have 16838 as upper bits, 38 modulo 40
        BreadString x = Checks.tower("p3a", "2610h;0010h");
        x.sunday(26);
        x.sunday(0);
        C.due("30 told Sundays do not count", x.week(1, 0, 0), 14);
        C.due("30 nor for the bites", x.week(1, 0, 1), 2);
        C.due("30 n 7", x.week(1, 7, 0), BAD);
        C.due("30 n -1", x.week(1, -1, 0), BAD);
        C.due("30 what 2", x.week(1, 0, 2), BAD);
        C.due("30 what -1", x.week(1, 0, -1), BAD);
        C.due("30 Sundays stay", x.count(5), 2);
        C.due("30 and count again", x.famine(), 0);
        for (int seed = -40; seed < 40; seed++) {
            dueWeek(Checks.tower("p3a", "2610h;0010h"), seed * 98765431);
        }
    }

    private static void dueWeek(BreadString x, int seed) {
        long lot = seed & 0xFFFFFFFFL;
        boolean late = false;
        boolean early = false;
        for (int n = 1; n <= 6; n++) {
            lot = (lot * 1103515245L + 12345L) % 0x100000000L;
            late |= lot / 65536 % 40 == 26;
            early |= lot / 65536 % 40 == 0;
            int bites = (late ? 0 : 1) + (early ? 0 : 1);
            C.due("30 week(" + seed + ", " + n + ", 0)", x.week(seed, n, 0), 20 - 3 * bites);
            C.due("30 week(" + seed + ", " + n + ", 1)", x.week(seed, n, 1), bites);
        }
    }
}
