import java.util.Random;

/** Promises 31 to 38: sheet, lose, put, get, copy, write, count, digest. */
public final class SheetPromisesTest {
    private static final int NONE = -1, BAD = -2;
    private static final int NULL = -11, INDEX = -12, CAST = -13, STORE = -14, SIZE = -15;
    private static final int LEAST = Integer.MIN_VALUE;
    private static final Checks C = new Checks();

    public static void main(String[] args) {
        promise31();
        promise32();
        promise33();
        promise34();
        promise35();
        promise35Refusals();
        promise36();
        promise37();
        promise38();
        C.end();
    }

    private static void promise31() {
        BreadString x = new BreadString();
        C.due("31 sheet 4", x.sheet(4, 0, 1), BAD);
        C.due("31 sheet -1", x.sheet(-1, 0, 1), BAD);
        C.due("31 form 3", x.sheet(0, 3, 1), BAD);
        C.due("31 form -1", x.sheet(0, -1, 1), BAD);
        C.due("31 above 60", x.sheet(0, 0, 61), BAD);
        C.due("31 BAD goes ahead of SIZE", x.sheet(0, 3, -1), BAD);
        C.due("31 no finding yet", x.count(8), 0);
        C.due("31 SIZE", x.sheet(0, 0, -1), SIZE);
        C.due("31 the finding", x.count(8), 5);
        C.due("31 still lost", x.lose(0), NULL);
        C.due("31 none", x.sheet(0, 1, 0), 0);
        C.due("31 sixty", x.sheet(3, 2, 60), 60);
        x.put(3, 2, 59, 7);
        C.due("31 a refusal changes nothing", x.sheet(3, 0, -5), SIZE);
        C.due("31 the item stays", x.get(3, 2, 59), 7);
        C.due("31 anew", x.sheet(3, 2, 60), 60);
        C.due("31 all items 0", x.get(3, 2, 59), 0);
        C.due("31 other form", x.sheet(3, 0, 5), 5);
        C.due("31 it has that form", x.get(3, 0, 4), 0);
    }

    private static void promise32() {
        BreadString x = new BreadString();
        C.due("32 sheet 4", x.lose(4), BAD);
        C.due("32 sheet -1", x.lose(-1), BAD);
        C.due("32 lost at first", x.lose(1), NULL);
        C.due("32 finding", x.count(8), 1);
        x.sheet(1, 0, 9);
        x.sheet(2, 0, 0);
        C.due("32 nine", x.lose(1), 9);
        C.due("32 none", x.lose(2), 0);
        C.due("32 lost again", x.lose(1), NULL);
    }

    private static void promise33() {
        BreadString x = new BreadString();
        C.due("33 sheet 4", x.put(4, 0, 0, 1), BAD);
        C.due("33 sheet -1", x.put(-1, 0, 0, 1), BAD);
        C.due("33 form 3", x.put(0, 3, 0, 1), BAD);
        C.due("33 form -1", x.put(0, -1, 0, 1), BAD);
        C.due("33 NULL", x.put(0, 0, 0, 1), NULL);
        C.due("33 finding 1", x.count(8), 1);
        x.sheet(0, 0, 2);
        x.sheet(1, 1, 2);
        x.sheet(2, 2, 2);
        C.due("33 CAST goes ahead of INDEX", x.put(0, 1, 9, 1), CAST);
        C.due("33 finding 3", x.count(8), 3);
        C.due("33 INDEX", x.put(0, 0, 2, 1), INDEX);
        C.due("33 finding 2", x.count(8), 2);
        C.due("33 INDEX below", x.put(0, 0, -1, 1), INDEX);
        C.due("33 far below", x.put(0, 0, LEAST, 1), INDEX);
        C.due("33 byte", x.put(0, 0, 1, 0x12345), 1);
        C.due("33 its lowest bits", x.get(0, 0, 1), 0x45);
        C.due("33 byte below 0", x.put(0, 0, 1, 200), 1);
        C.due("33 it is", x.get(0, 0, 1), -56);
        C.due("33 short", x.put(1, 1, 0, 0x19999), 1);
        C.due("33 it is", x.get(1, 1, 0), (short) 0x9999);
        C.due("33 int", x.put(2, 2, 0, 0x7FFF1234), 1);
        C.due("33 it is", x.get(2, 2, 0), 0x7FFF1234);
        C.due("33 the one beside", x.get(2, 2, 1), 0);
    }

    private static void promise34() {
        BreadString x = new BreadString();
        C.due("34 sheet 4", x.get(4, 0, 0), LEAST);
        C.due("34 sheet -1", x.get(-1, 0, 0), LEAST);
        C.due("34 form 3", x.get(0, 3, 0), LEAST);
        C.due("34 form -1", x.get(0, -1, 0), LEAST);
        C.due("34 no finding", x.count(8), 0);
        C.due("34 NULL", x.get(0, 0, 0), LEAST);
        C.due("34 finding 1", x.count(8), 1);
        x.sheet(0, 1, 1);
        C.due("34 CAST goes ahead of INDEX", x.get(0, 0, 1), LEAST);
        C.due("34 finding 3", x.count(8), 3);
        C.due("34 INDEX", x.get(0, 1, 1), LEAST);
        C.due("34 finding 2", x.count(8), 2);
        C.due("34 BAD leaves it", x.get(0, 3, 1), LEAST);
        C.due("34 finding 2 still", x.count(8), 2);
        x.put(0, 1, 0, -5);
        C.due("34 item", x.get(0, 1, 0), -5);
        C.due("34 INDEX below", x.get(0, 1, -1), LEAST);
    }

    private static BreadString counted(int form, int n) {
        BreadString x = new BreadString();
        x.sheet(0, form, n);
        for (int i = 0; i < n; i++) {
            x.put(0, form, i, i + 1);
        }
        return x;
    }

    private static void dueItems(String name, BreadString x, int s, int form, int... want) {
        for (int i = 0; i < want.length; i++) {
            C.due(name + ", item " + i, x.get(s, form, i), want[i]);
        }
    }

    private static void promise35() {
        BreadString x = counted(1, 6);
        x.sheet(3, 1, 4);
        C.due("35 to another", x.copy(0, 1, 3, 2, 2), 1);
        dueItems("35 there", x, 3, 1, 0, 0, 2, 3);
        C.due("35 upon itself, upwards", x.copy(0, 0, 0, 1, 5), 1);
        dueItems("35 as they were", x, 0, 1, 1, 1, 2, 3, 4, 5);
        C.due("35 downwards", x.copy(0, 2, 0, 0, 4), 1);
        dueItems("35 as they were, down", x, 0, 1, 2, 3, 4, 5, 4, 5);
        C.due("35 none, at the ends", x.copy(0, 6, 3, 4, 0), 1);
        dueItems("35 nothing is changed", x, 3, 1, 0, 0, 2, 3);
    }

    private static void promise35Refusals() {
        BreadString x = counted(2, 3);
        C.due("35 sheet s 4", x.copy(4, 0, 0, 0, 0), BAD);
        C.due("35 sheet s -1", x.copy(-1, 0, 0, 0, 0), BAD);
        C.due("35 sheet t 4", x.copy(0, 0, 4, 0, 0), BAD);
        C.due("35 sheet t -1", x.copy(1, 0, -1, 0, 0), BAD);
        C.due("35 no finding", x.count(8), 0);
        C.due("35 t is lost", x.copy(0, 0, 1, 0, 0), NULL);
        C.due("35 s is lost", x.copy(1, 0, 0, 0, 0), NULL);
        C.due("35 finding 1", x.count(8), 1);
        x.sheet(1, 1, 3);
        x.sheet(2, 2, 2);
        C.due("35 STORE goes ahead of INDEX", x.copy(0, 0, 1, 0, 9), STORE);
        C.due("35 finding 4", x.count(8), 4);
        int[][] wrong = {{-1, 0, 1}, {0, -1, 1}, {0, 0, -1}, {2, 0, 2}, {0, 1, 2}, {4, 0, 0}, {0, 3, 0}, {0, 0, 3},
            {1, 1, Integer.MAX_VALUE}, {Integer.MAX_VALUE, 0, 2}, {0, Integer.MAX_VALUE, 2}, {LEAST, LEAST, LEAST},
            {0, 0, LEAST}};
        for (int[] w : wrong) {
            C.due("35 INDEX " + w[0] + " " + w[1] + " " + w[2], x.copy(0, w[0], 2, w[1], w[2]), INDEX);
        }
        C.due("35 finding 2", x.count(8), 2);
        dueItems("35 nothing came", x, 2, 2, 0, 0);
    }

    private static void promise36() {
        BreadString x = Checks.tower("p3c;m2h", "0010abc");
        C.due("36 lost", x.write(0, 0), NULL);
        C.due("36 finding 1", x.count(8), 1);
        C.due("36 basket 1", x.write(1, 0), BAD);
        C.due("36 basket -1", x.write(-1, 0), BAD);
        C.due("36 sheet 4", x.write(0, 4), BAD);
        C.due("36 sheet -1", x.write(0, -1), BAD);
        x.sheet(0, 2, 6);
        x.put(0, 2, 4, 99);
        C.due("36 all letters", x.write(0, 0), 4);
        dueItems("36 hbcc", x, 0, 2, 7, 1, 2, 2, 99, 0);
        x.sheet(1, 0, 2);
        C.due("36 as many as items", x.write(0, 1), 2);
        dueItems("36 hb", x, 1, 0, 7, 1);
        x.sheet(1, 1, 0);
        C.due("36 no items", x.write(0, 1), 0);
    }

    private static void promise37() {
        BreadString x = Checks.tower("p3c;m2h", "0010abc;0410h;0810h");
        x.wind(1);
        x.sunday(2);
        x.sunday(2);
        x.seen(0, 0, 0);
        x.sheet(0, 0, -1);
        int[] want = {2, 3, 7, 19, 1, 2, 6, 1, 5};
        for (int what = 0; what < want.length; what++) {
            C.due("37 count(" + what + ")", x.count(what), want[what]);
        }
        C.due("37 what 9", x.count(9), BAD);
        C.due("37 what -1", x.count(-1), BAD);
        x.type(0, 'x');
        C.due("37 no floors with a fault", x.count(0), 0);
        C.due("37 but bytes", x.count(2), 8);
        C.due("37 no bites without floors", x.count(6), 0);
    }

    private static void promise38() {
        dueDigest("new", new BreadString());
        dueDigest("no baskets", Checks.tower("p3a;c2b", ""));
        C.due("38 a floor that never bit", Checks.tower("l1d", "").digest(), 8877816136269400472L);
        dueDigest("no floors", Checks.tower("", "0010h;2905abc"));
        dueDigest("some", some());
        dueDigest("seen", someSeen());
        BreadString again = someSeen();
        C.due("38 calls change nothing", again.digest(), again.digest());
        BreadString fault = someSeen();
        fault.type(1, ';');
        dueDigest("fault", fault);
        Random lots = new Random(38);
        for (int k = 0; k < 40; k++) {
            dueDigest("by lot " + k, byLot(lots));
        }
    }

    private static BreadString some() {
        BreadString x = Checks.tower("p3a;l2b;m4c;c1d;l5e", "0045abc;0130d;0120ef;2999g");
        x.wind(4);
        x.wind(5);
        x.wind(12);
        x.sunday(3);
        return x;
    }

    private static BreadString someSeen() {
        BreadString x = some();
        x.seen(0, 1, 2);
        x.seen(2, 3, 8);
        x.set(0, 1);
        x.set(1, 2);
        return x;
    }

    /** Two towers of each three are long and have baskets in all hours, so that each number in the digest counts. */
    private static BreadString byLot(Random lots) {
        StringBuilder floors = new StringBuilder();
        StringBuilder baskets = new StringBuilder();
        int latest = lots.nextInt(3) == 0 ? 9 : 30;
        for (int k = 0; k < 8; k++) {
            String between = k > 0 ? ";" : "";
            floors.append(between).append("pmlcc".charAt(lots.nextInt(5))).append(lots.nextInt(6));
            floors.append((char) ('a' + lots.nextInt(8)));
            int hour = lots.nextInt(latest);
            baskets.append(between).append(hour / 10).append(hour % 10);
            baskets.append(lots.nextInt(3)).append(lots.nextInt(10));
            baskets.append((char) ('a' + lots.nextInt(8)));
        }
        BreadString x = Checks.tower(floors.toString(), baskets.toString());
        for (int k = 0; k < 6; k++) {
            x.wind(lots.nextInt(latest + 8));
        }
        x.set(0, lots.nextInt(4));
        return x;
    }

    private static void dueDigest(String name, BreadString x) {
        long got = x.digest();
        long h = 17;
        for (int what = 0; what <= 7; what++) {
            h = 31 * h + x.count(what);
        }
        h = 31 * (31 * h + x.fault(0)) + x.fault(1);
        for (int f = 0; f < x.count(0); f++) {
            for (long v : new long[] {x.floor(f, 0), x.floor(f, 1), x.floor(f, 2), x.bites(f, 0), x.bites(f, 1),
                x.was(f, 0), x.was(f, 1), x.ask(f)}) {
                h = 31 * h + v;
            }
        }
        for (int b = 0; b < x.count(1); b++) {
            h = basketSum(h, x, b);
        }
        for (long v : new long[] {x.famine(), x.first(0), x.first(1), x.greedy(), x.still(0), x.still(1), x.never(),
            x.week(7, 5, 0), x.week(7, 5, 1)}) {
            h = 31 * h + v;
        }
        C.due("38 digest, " + name, got, h);
    }

    private static long basketSum(long h, BreadString x, int b) {
        for (int what = 0; what <= 5; what++) {
            h = 31 * h + x.basket(b, what);
        }
        for (int hour : new int[] {0, 5, 12, 39}) {
            for (int what = 0; what <= 3; what++) {
                h = 31 * h + x.at(hour, b, what);
            }
        }
        for (long v : new long[] {x.comes(b), x.note(b, 0), x.note(b, 1), x.note(b, 2), x.note(b, 3), x.send(b, 0),
            x.send(b, 1), x.loaf(b, 5), x.feed(b, NONE), x.feed(b, 0), x.gust(5, b, 3, 0), x.gust(5, b, 3, 1)}) {
            h = 31 * h + v;
        }
        return h;
    }
}
