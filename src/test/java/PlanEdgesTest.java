/** Each sentence about plans that names a boundary case: promises 20 to 23. */
public final class PlanEdgesTest {
    private static final int NONE = -1, BAD = -2;
    private static final int LEAST = Integer.MIN_VALUE, MOST = Integer.MAX_VALUE;
    private static final Checks C = new Checks();

    public static void main(String[] args) {
        sendHours();
        sendLikeOnes();
        loafEnds();
        loafPlaces();
        feedCounts();
        feedRows();
        feedComesUp();
        still();
        wrongNumbers();
        C.end();
    }

    private static void dueSend(String name, BreadString x, int basket, int hour, int much) {
        C.due(name + ", send(" + basket + ", 0)", x.send(basket, 0), hour);
        C.due(name + ", send(" + basket + ", 1)", x.send(basket, 1), much);
    }

    private static void sendHours() {
        C.about(20, "the HOUR (0 to 29), in place of its own, by which most LOAD comes up in all");
        for (int hour = 0; hour <= 29; hour++) {
            dueSend("Sunday " + hour, Checks.holy("p3a", "1510h", hour), 0, hour, 10);
        }
        dueSend("Sunday 30 is none", Checks.holy("p3a", "1510h", 30), 0, 0, 7);
        dueSend("Sunday 39 is none", Checks.holy("p3a", "1510h", 39), 0, 0, 7);
        BreadString late = Checks.tower(Checks.many(9, "l0a"), "2999h");
        C.due("as told it does not come up", late.comes(0), NONE);
        dueSend("one that is late", late, 0, 0, 99);
        BreadString own = Checks.holy("p3a", "0510h", 7);
        dueSend("its own hour is not best", own, 0, 7, 10);
        C.due("its own hour stays", own.basket(0, 0), 5);
        C.due("and what comes up", own.famine(), 3);
        C.about(20, "most LOAD comes up in all");
        BreadString two = Checks.tower("p9a", "0001h;0199g");
        C.due("as told the small one is bitten", two.famine(), 1);
        dueSend("it stays so", two, 0, 0, 99);
        dueSend("the great one, tangled behind it", two, 1, 0, 99);
        dueSend("of all eight", Checks.tower("", Checks.many(8, "2999h")), 7, 0, 8 * 99);
    }

    private static void sendLikeOnes() {
        C.about(20, "of like ones the least: which; how much");
        dueSend("all alike", Checks.tower("p3a", "2910h"), 0, 0, 7);
        dueSend("two Sundays", Checks.holy("p3a", "0010h", 20, 12), 0, 12, 10);
        dueSend("no load at all", Checks.tower("p3a", "2900h"), 0, 0, 0);
        dueSend("all is eaten", Checks.tower("p9a", "2909h"), 0, 0, 0);
        dueSend("no floors", Checks.tower("", "2909h"), 0, 0, 9);
        dueSend("tangled, but alike", Checks.tower("p0a", "0010h;0010g"), 1, 0, 20);
    }

    private static void loafEnds() {
        C.about(21, "the least LOAD (0 to 99), with which so much (0 to 99), or more, comes up in it");
        BreadString bare = Checks.tower("", "0050h");
        BreadString bitten = Checks.tower("p9a", "0050h");
        for (int much = 0; much <= 99; much++) {
            C.due("nobody bites, loaf(0, " + much + ")", bare.loaf(0, much), much);
            int want = much == 0 ? 0 : much <= 90 ? much + 9 : NONE;
            C.due("a bite of 9, loaf(0, " + much + ")", bitten.loaf(0, much), want);
        }
        C.due("the load stays", bitten.basket(0, 1), 50);
        C.due("and what comes up", bitten.famine(), 9);
        BreadString half = Checks.windy("c0a", "0050h", 0);
        for (int much = 0; much <= 50; much++) {
            C.due("half, loaf(0, " + much + ")", half.loaf(0, much), much < 50 ? 2 * much : NONE);
        }
    }

    private static void loafPlaces() {
        C.about(21, "so much, or more, comes up in it; NONE");
        BreadString up = Checks.tower(Checks.many(5, "l0a") + ";p1a", "2910h");
        C.due("in hour 40", up.loaf(0, 5), 6);
        BreadString late = Checks.tower(Checks.many(5, "l0a") + ";p1a;p0a", "2910h");
        C.due("not by hour 40", late.loaf(0, 5), NONE);
        C.due("nor nothing", late.loaf(0, 0), NONE);
        BreadString two = Checks.tower("p3a", "0050h;0050g");
        C.due("in the first", two.loaf(0, 50), 53);
        C.due("in the second, which the first shields", two.loaf(1, 50), 50);
        BreadString empty = Checks.tower("p3a", "0000h;0150g");
        C.due("behind an empty one", empty.loaf(1, 50), 53);
        C.due("its own load is no matter", empty.loaf(0, 99 - 3), 99);
    }

    private static void dueFeed(String name, BreadString x, int many, int first, int second) {
        C.due(name + ", feed(0, NONE)", x.feed(0, NONE), many);
        C.due(name + ", feed(0, 0)", x.feed(0, 0), first);
        C.due(name + ", feed(0, 1)", x.feed(0, 1), second);
    }

    private static void feedCounts() {
        C.about(22, "the fewest FLOORS (0 to 2) that had better not bite: how many; the i-th; NONE");
        String[] floors = {"p0a;p0b;p0c", "p0a;p1b;p0c", "p1a;p0b;p1c", "p1a;p1b;p1c"};
        int[][] want = {{0, NONE, NONE}, {1, 1, NONE}, {2, 0, 2}, {NONE, NONE, NONE}};
        for (int k = 0; k < 4; k++) {
            BreadString x = Checks.tower(floors[k], "0010h");
            dueFeed(floors[k], x, want[k][0], want[k][1], want[k][2]);
            C.due(floors[k] + ", bites stay", x.count(6), k);
        }
        dueFeed("no floors", Checks.tower("", "0010h"), 0, NONE, NONE);
        String nine = "p1a;" + Checks.many(7, "p0a") + ";p1b";
        BreadString ends = Checks.tower(nine, "0010h");
        // the ninth floor's word comes behind the letter that the fourth and eighth left alone
        dueFeed("the first and the last of nine", ends, 2, 0, 8);
        BreadString last = Checks.tower(Checks.many(7, "p0a") + ";p1a;p1b", "0010h");
        dueFeed("the last two of nine", last, 2, 7, 8);
    }

    private static void feedRows() {
        C.about(22, "of like ones the least row (each more than the one ahead)");
        BreadString one = Checks.tower("p1h;p1h;p1h", "0010hh");
        one.set(1, 2);
        // each alone leaves two words behind hh, of which one letter is worn off: three letters; so two must be fed
        dueFeed("of three like ones two", one, 2, 0, 1);
        BreadString any = Checks.tower("p1h;p1h", "0010hh");
        any.set(1, 2);
        dueFeed("of two like ones one", any, 1, 0, NONE);
        // one letter is worn off behind the fourth floor, so that one word h must be left
        dueFeed("two rows do, the least is due", Checks.tower("p1a;p1h;p0b;p1h", "0010hh"), 2, 0, 1);
        dueFeed("one row does", Checks.tower("p1a;p1b;p0b;p1h", "0010hh"), 2, 0, 1);
        dueFeed("another row does", Checks.tower("p1h;p1b;p0b;p1a", "0010hh"), 2, 1, 3);
        dueFeed("three would have to be fed", Checks.tower("p1h;p1b;p1b;p1a", "0010hh"), NONE, NONE, NONE);
        C.about(22, "the fewest");
        BreadString fewer = Checks.tower("p1a;p1b;m1h", "0010h");
        fewer.set(1, 1);
        dueFeed("none, though two would do as well", fewer, 0, NONE, NONE);
    }

    private static void feedComesUp() {
        C.about(22, "so that it COMES UP with its NOTE as it was told");
        dueFeed("in hour 40", Checks.tower(Checks.many(5, "l0a") + ";p1a", "2910h"), 1, 5, NONE);
        dueFeed("not by hour 40", Checks.tower(Checks.many(5, "l0a") + ";p0a;p0a", "2910h"), NONE, NONE, NONE);
        dueFeed("a letter short", Checks.tower(Checks.many(4, "p0a"), "0010hh"), NONE, NONE, NONE);
        dueFeed("one letter is not worn", Checks.tower(Checks.many(4, "p0a"), "0010h"), 0, NONE, NONE);
        dueFeed("another letter", Checks.tower("m1g", "0010hgf"), 1, 0, NONE);
        dueFeed("the same letter", Checks.tower("m1h", "0010hgf"), 0, NONE, NONE);
        dueFeed("as told, of three letters the last", Checks.tower("p0a;p0a;p0a;p1g", "0010hhh"), NONE, NONE, NONE);
        dueFeed("as told, all three", Checks.tower("p0a;p0a;p0a;p1h", "0010hhh"), 0, NONE, NONE);
        dueFeed("a load of 0 is not bitten", Checks.tower("p1a;p1b;p1c", "0000h"), 0, NONE, NONE);
        BreadString other = Checks.tower("p2a", "0110h;0002g");
        C.due("that basket, shielded", other.feed(0, NONE), 0);
        C.due("the other basket", other.feed(1, NONE), 1);
        C.due("the other basket's row", other.feed(1, 0), 0);
    }

    private static void still() {
        C.about(23, "the WIND that had better not be, of like ones the least: which; how much; NONE: there are none");
        BreadString x = Checks.tower("c0a", "0040h");
        C.due("no wind", x.still(0), NONE);
        C.due("no wind", x.still(1), NONE);
        for (int k = 0; k < 5; k++) {
            x.wind(20 + k);
        }
        C.due("all alike", x.still(0), 0);
        C.due("all alike", x.still(1), 40);
        x.wind(0);
        C.due("the sixth", x.still(0), 5);
        C.due("the sixth", x.still(1), 40);
        C.due("it blows on", x.famine(), 20);
        BreadString twins = Checks.windy("c0a", "0040h", 0, 0);
        C.due("two in one hour", twins.still(0), 0);
        C.due("two in one hour", twins.still(1), 20);
        twins.back(0);
        C.due("one", twins.still(1), 40);
        C.due("no load comes up", Checks.windy("c0a", "0000h", 3, 0).still(1), 0);
        C.due("no baskets", Checks.windy("c0a", "", 3, 0).still(0), 0);
        C.due("no baskets", Checks.windy("c0a", "", 3, 0).still(1), 0);
    }

    private static void wrongNumbers() {
        BreadString x = Checks.windy("c1a", "0040h", 0);
        for (int wrong : new int[] {LEAST, -2, 2, 8, MOST}) {
            C.about(20, "BAD");
            C.due("send(" + wrong + ", 0)", x.send(wrong, 0), BAD);
            C.due("send(0, " + wrong + ")", x.send(0, wrong), BAD);
            C.about(21, "BAD");
            C.due("loaf(" + wrong + ", 0)", x.loaf(wrong, 0), BAD);
            C.about(22, "BAD");
            C.due("feed(" + wrong + ", 0)", x.feed(wrong, 0), BAD);
            C.due("feed(0, " + wrong + ")", x.feed(0, wrong), BAD);
            C.about(23, "BAD");
            C.due("still(" + wrong + ")", x.still(wrong), BAD);
        }
        C.about(21, "so much (0 to 99). BAD");
        for (int wrong : new int[] {LEAST, -1, 100, MOST}) {
            C.due("loaf(0, " + wrong + ")", x.loaf(0, wrong), BAD);
        }
        C.about(22, "how many (i = NONE), the i-th (0, 1; NONE). BAD: no such BASKET");
        C.due("feed(-1, -1)", x.feed(-1, -1), BAD);
        C.due("feed(1, -1)", x.feed(1, -1), BAD);
        C.about(20, "BAD: no such BASKET");
        C.due("send(1, 0)", x.send(1, 0), BAD);
        C.due("send(-1, 0)", x.send(-1, 0), BAD);
        C.due("send(0, -1)", x.send(0, -1), BAD);
        C.about(23, "BAD goes ahead of NONE");
        C.due("still(2)", new BreadString().still(2), BAD);
        C.due("still(-1)", new BreadString().still(-1), BAD);
    }
}
