/** Promises 20 to 23: send, loaf, feed, still. */
public final class PlanPromisesTest {
    private static final int NONE = -1, BAD = -2;
    private static final String LATE = "l0a;l0a;l0a;l0a;l0a;l0a";
    private static final Checks C = new Checks();

    public static void main(String[] args) {
        promise20();
        promise21();
        promise22();
        promise22Rows();
        promise23();
        C.end();
    }

    private static void dueSend(String name, BreadString x, int basket, int hour, int load) {
        C.due("20 " + name + ", hour", x.send(basket, 0), hour);
        C.due("20 " + name + ", load", x.send(basket, 1), load);
    }

    private static void promise20() {
        BreadString x = Checks.tower("p3a", "0110h");
        dueSend("all hours are alike", x, 0, 0, 7);
        x.sunday(5);
        x.sunday(3);
        dueSend("a Sunday", x, 0, 3, 10);
        C.due("20 the hour stays", x.basket(0, 0), 1);
        C.due("20 and the load that comes up", x.famine(), 3);
        C.due("20 basket 1", x.send(1, 0), BAD);
        C.due("20 basket -1", x.send(-1, 0), BAD);
        C.due("20 what 2", x.send(0, 2), BAD);
        C.due("20 what -1", x.send(0, -1), BAD);
        BreadString last = Checks.tower("p3a", "0110h");
        last.sunday(30);
        dueSend("hour 30 is too late", last, 0, 0, 7);
        last.sunday(29);
        dueSend("hour 29 is not", last, 0, 29, 10);
        BreadString shield = Checks.tower("p9a", "0599h;0009h");
        dueSend("the load of all counts, behind the small one", shield, 0, 0, 99);
        dueSend("the small one ahead of the great", shield, 1, 2, 99);
        BreadString slow = Checks.tower(LATE, "2910h");
        dueSend("one that is late", slow, 0, 0, 10);
        dueSend("no floors", Checks.tower("", "0710h;0809h"), 1, 0, 19);
    }

    private static void promise21() {
        BreadString x = Checks.tower("p3a;p2b", "0010h");
        C.due("21 nothing", x.loaf(0, 0), 0);
        C.due("21 one", x.loaf(0, 1), 6);
        C.due("21 five", x.loaf(0, 5), 10);
        C.due("21 the most", x.loaf(0, 94), 99);
        C.due("21 too much", x.loaf(0, 95), NONE);
        C.due("21 the load stays", x.basket(0, 1), 10);
        C.due("21 much 100", x.loaf(0, 100), BAD);
        C.due("21 much -1", x.loaf(0, -1), BAD);
        C.due("21 basket 1", x.loaf(1, 0), BAD);
        C.due("21 basket -1", x.loaf(-1, 0), BAD);
        BreadString wind = Checks.tower("c0a", "0010h;0010h");
        wind.wind(0);
        C.due("21 half, cut", wind.loaf(0, 5), 10);
        C.due("21 half of 99", wind.loaf(0, 49), 98);
        C.due("21 more than half", wind.loaf(0, 50), NONE);
        C.due("21 of that basket alone", wind.loaf(1, 50), 50);
        BreadString late = Checks.tower(LATE, "2910h");
        C.due("21 does not come up", late.loaf(0, 5), NONE);
        C.due("21 not even with nothing", late.loaf(0, 0), NONE);
        C.due("21 no floors", Checks.tower("", "0010h").loaf(0, 99), 99);
    }

    private static void dueFeed(String name, BreadString x, int many, int first, int second) {
        C.due("22 " + name + ", how many", x.feed(0, NONE), many);
        C.due("22 " + name + ", 0", x.feed(0, 0), first);
        C.due("22 " + name + ", 1", x.feed(0, 1), second);
    }

    private static void promise22() {
        BreadString x = Checks.tower("p3a;p0b;p2c", "0010h");
        dueFeed("two bite", x, 2, 0, 2);
        C.due("22 bites stay", x.floor(0, 1), 3);
        C.due("22 the other bites stay", x.floor(2, 1), 2);
        C.due("22 i 2", x.feed(0, 2), BAD);
        C.due("22 i -2", x.feed(0, -2), BAD);
        C.due("22 basket 1", x.feed(1, 0), BAD);
        C.due("22 basket -1", x.feed(-1, 0), BAD);
        dueFeed("three bite", Checks.tower("p3a;p1b;p2c", "0010h"), NONE, NONE, NONE);
        dueFeed("one bites", Checks.tower("p0a;p1b;p0c", "0010h"), 1, 1, NONE);
        dueFeed("none bites", Checks.tower("p0a;p0b", "0010h"), 0, NONE, NONE);
        dueFeed("mice spell another", Checks.tower("m1a", "0010h"), 1, 0, NONE);
        dueFeed("mice spell the same", Checks.tower("m1h", "0010h"), 0, NONE, NONE);
        dueFeed("worn for good", Checks.tower("p0a;p0a;p0a;p0a", "0010hg"), NONE, NONE, NONE);
        dueFeed("worn and mended", Checks.tower("p0a;p0a;p0a;p1h", "0010hh"), 0, NONE, NONE);
        dueFeed("does not come up", Checks.tower(LATE, "2910h"), NONE, NONE, NONE);
        dueFeed("no floors", Checks.tower("", "0010h"), 0, NONE, NONE);
        dueFeed("another's bite shields it", Checks.tower("p9a", "0110h;0009h"), 0, NONE, NONE);
    }

    private static void promise22Rows() {
        BreadString like = Checks.tower("p1a;p1a", "0010aa");
        like.set(1, 2);
        dueFeed("of like ones the least", like, 1, 0, NONE);
        BreadString pairs = Checks.tower("p1a;p1a;p1a", "0010a");
        pairs.set(1, 3);
        dueFeed("of like rows the least", pairs, 2, 0, 1);
        BreadString later = Checks.tower("p1h;p1a;p1b", "0010h");
        later.set(1, 3);
        dueFeed("a later row", later, 2, 1, 2);
        BreadString second = Checks.tower("p1h;p1a", "0010h");
        second.set(1, 2);
        dueFeed("a later floor", second, 1, 1, NONE);
    }

    private static void promise23() {
        BreadString x = Checks.tower("c0a", "0010a;0120b");
        C.due("23 no wind", x.still(0), NONE);
        C.due("23 no wind, much", x.still(1), NONE);
        C.due("23 what 2", x.still(2), BAD);
        C.due("23 what -1", x.still(-1), BAD);
        x.wind(0);
        C.due("23 one wind", x.still(0), 0);
        C.due("23 one wind, much", x.still(1), 30);
        x.wind(1);
        C.due("23 the second", x.still(0), 1);
        C.due("23 the second, much", x.still(1), 25);
        x.wind(1);
        C.due("23 another like it blows on", x.still(0), 0);
        C.due("23 another like it, much", x.still(1), 20);
        C.due("23 winds stay", x.count(4), 3);
        C.due("23 famine stays", x.famine(), 15);
        BreadString calm = Checks.tower("p0a", "0010a");
        calm.wind(3);
        calm.wind(0);
        C.due("23 of like ones the least", calm.still(0), 0);
        C.due("23 of like ones, much", calm.still(1), 10);
        BreadString empty = new BreadString();
        empty.wind(3);
        C.due("23 no baskets", empty.still(0), 0);
        C.due("23 no baskets, much", empty.still(1), 0);
    }
}
