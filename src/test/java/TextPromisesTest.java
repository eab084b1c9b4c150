/** Promises 1 to 12: a new object; type, wipe, undo, fault, floor, basket, set, wind, sunday, back, read. */
public final class TextPromisesTest {
    private static final int NONE = -1, BAD = -2, NOT = -3, FULL = -4, NULL = -11;
    private static final Checks C = new Checks();

    public static void main(String[] args) {
        promise1();
        promise2();
        promise3();
        promise4();
        promise5Floors();
        promise5Baskets();
        promise6();
        promise7();
        promise8();
        promise9();
        promise10();
        promise11();
        promise12();
        C.end();
    }

    private static void promise1() {
        BreadString x = new BreadString();
        for (int what = 0; what <= 8; what++) {
            C.due("1 count(" + what + ")", x.count(what), 0);
        }
        C.due("1 fault(0)", x.fault(0), NONE);
        C.due("1 fault(1)", x.fault(1), NONE);
        C.due("1 hunger", x.set(0, 3), 3);
        C.due("1 wear", x.set(1, 4), 4);
        for (int s = 0; s < 4; s++) {
            C.due("1 lose(" + s + ")", x.lose(s), NULL);
        }
    }

    private static void promise2() {
        BreadString x = new BreadString();
        C.due("2 text -1", x.type(-1, 65), BAD);
        C.due("2 text 2", x.type(2, 65), BAD);
        C.due("2 byte -1", x.type(0, -1), BAD);
        C.due("2 byte 256", x.type(0, 256), BAD);
        C.due("2 none yet", x.count(2), 0);
        C.due("2 byte 0", x.type(0, 0), 1);
        C.due("2 byte 255", x.type(0, 255), 2);
        for (int i = 3; i <= 35; i++) {
            C.due("2 floor byte", x.type(0, 'p'), i);
        }
        C.due("2 36th", x.type(0, 'p'), FULL);
        C.due("2 BAD goes ahead of FULL", x.type(0, 256), BAD);
        C.due("2 full stays", x.count(2), 35);
        for (int i = 1; i <= 63; i++) {
            C.due("2 basket byte", x.type(1, '0'), i);
        }
        C.due("2 64th", x.type(1, '0'), FULL);
        C.due("2 basket bytes", x.count(3), 63);
    }

    private static void promise3() {
        BreadString x = Checks.tower("p1a;m2b", "0005a");
        C.due("3 BAD", x.wipe(2), BAD);
        C.due("3 BAD below", x.wipe(-1), BAD);
        C.due("3 floors", x.wipe(0), 7);
        C.due("3 no floors", x.count(0), 0);
        C.due("3 baskets stay", x.count(1), 1);
        C.due("3 baskets", x.wipe(1), 5);
        C.due("3 no baskets", x.count(1), 0);
        C.due("3 again", x.wipe(1), 0);
        C.due("3 typed anew", x.type(0, 'c'), 1);
    }

    private static void promise4() {
        BreadString x = Checks.tower("p1a;", "0005ab");
        C.due("4 BAD", x.undo(2), BAD);
        C.due("4 BAD below", x.undo(-1), BAD);
        C.due("4 with a fault there are none", x.count(0), 0);
        C.due("4 floors", x.undo(0), 3);
        C.due("4 mended", x.count(0), 1);
        C.due("4 baskets", x.undo(1), 5);
        C.due("4 letters", x.basket(0, 2), 1);
        C.due("4 not ended", x.undo(1), 4);
        C.due("4 no basket", x.count(1), 0);
        for (int left = 3; left >= 0; left--) {
            C.due("4 down", x.undo(1), left);
        }
        C.due("4 NOT", x.undo(1), NOT);
    }

    private static void dueFault(int text, String bytes, int want) {
        BreadString x = new BreadString();
        Checks.type(x, text, bytes);
        C.due("5 fault of " + bytes, x.fault(text), want);
        C.due("5 other text of " + bytes, x.fault(1 - text), NONE);
        if (want != NONE) {
            C.due("5 none in " + bytes, x.count(text), 0);
        }
    }

    private static void promise5Floors() {
        BreadString x = new BreadString();
        C.due("5 BAD", x.fault(2), BAD);
        C.due("5 BAD below", x.fault(-1), BAD);
        dueFault(0, "", NONE);
        dueFault(0, "p0a", NONE);
        dueFault(0, "m9h;l5d;c1b;p0a", NONE);
        dueFault(0, "p", 1);
        dueFault(0, "p0", 2);
        dueFault(0, "p0a;", 4);
        dueFault(0, "P0a", 0);
        dueFault(0, "q0a", 0);
        dueFault(0, ";p0a", 0);
        dueFault(0, "p/a", 1);
        dueFault(0, "p:a", 1);
        dueFault(0, "p0`", 2);
        dueFault(0, "p0i", 2);
        dueFault(0, "p0a:p0a", 3);
        dueFault(0, "p0a;;", 4);
        dueFault(0, "p0a;p0a;x", 8);
        dueFault(0, "p0a;p0a;p0a;p0a;p0a;p0a;p0a;p0a;p0a", NONE);
        dueFault(0, "p0a;p0a;p0a;p0a;p0a;p0a;p0a;p0a;p0", 34);
        dueFault(0, "p0a;p0a;p0a;p0a;p0a;p0a;p0a;p0a;p0z", 34);
    }

    private static void promise5Baskets() {
        dueFault(1, "", NONE);
        dueFault(1, "0000a", NONE);
        dueFault(1, "2999hgf;0000ab;1234c", NONE);
        dueFault(1, "3000a", 0);
        dueFault(1, "/000a", 0);
        dueFault(1, "0:00a", 1);
        dueFault(1, "00a0a", 2);
        dueFault(1, "000a", 3);
        dueFault(1, "0000", 4);
        dueFault(1, "0000;", 4);
        dueFault(1, "00000", 4);
        dueFault(1, "0000i", 4);
        dueFault(1, "0000abi", 6);
        dueFault(1, "0000abcd", 7);
        dueFault(1, "0000abc;", 8);
        dueFault(1, "0000a;;", 6);
        dueFault(1, "0000a;0", 7);
        String eight = "0000a;0000a;0000a;0000a;0000a;0000a;0000a;0000a";
        dueFault(1, eight, NONE);
        dueFault(1, eight + "b;", 49);
        dueFault(1, eight + ";", 48);
        dueFault(1, eight + ";0", 48);
        dueFault(1, eight + ";0000a", 48);
        dueFault(1, "0000abc;0000abc;0000abc;0000abc;0000abc;0000abc;0000abc;0000abc", NONE);
    }

    private static void promise6() {
        BreadString x = Checks.tower("p0a;m9h;l5d;c1b", "");
        int[][] want = {{0, 0, 0}, {1, 9, 7}, {2, 5, 3}, {3, 1, 1}};
        for (int f = 0; f < 4; f++) {
            for (int what = 0; what < 3; what++) {
                C.due("6 floor(" + f + ", " + what + ")", x.floor(f, what), want[f][what]);
            }
        }
        C.due("6 no such floor", x.floor(4, 0), BAD);
        C.due("6 below", x.floor(-1, 0), BAD);
        C.due("6 what -1", x.floor(0, -1), BAD);
        C.due("6 what 3", x.floor(0, 3), BAD);
        x.type(0, ';');
        C.due("6 with a fault", x.floor(0, 0), BAD);
    }

    private static void promise7() {
        BreadString x = Checks.tower("", "2907hab;0199c");
        int[][] want = {{29, 7, 3, 7, 0, 1}, {1, 99, 1, 2, NONE, NONE}};
        for (int b = 0; b < 2; b++) {
            for (int what = 0; what < 6; what++) {
                C.due("7 basket(" + b + ", " + what + ")", x.basket(b, what), want[b][what]);
            }
        }
        C.due("7 no such basket", x.basket(2, 0), BAD);
        C.due("7 below", x.basket(-1, 0), BAD);
        C.due("7 what -1", x.basket(0, -1), BAD);
        C.due("7 what 6", x.basket(0, 6), BAD);
        x.type(1, ';');
        C.due("7 with a fault", x.basket(0, 0), BAD);
    }

    private static void promise8() {
        BreadString x = new BreadString();
        C.due("8 hunger", x.set(0, 0), 3);
        C.due("8 hunger 9", x.set(0, 9), 0);
        C.due("8 wear", x.set(1, 1), 4);
        C.due("8 wear 9", x.set(1, 9), 1);
        C.due("8 hunger -1", x.set(0, -1), BAD);
        C.due("8 hunger 10", x.set(0, 10), BAD);
        C.due("8 wear 0", x.set(1, 0), BAD);
        C.due("8 wear 10", x.set(1, 10), BAD);
        C.due("8 what 2", x.set(2, 5), BAD);
        C.due("8 what -1", x.set(-1, 5), BAD);
        C.due("8 hunger stays", x.set(0, 3), 9);
        C.due("8 wear stays", x.set(1, 4), 9);
    }

    private static void promise9() {
        BreadString x = new BreadString();
        C.due("9 hour -1", x.wind(-1), BAD);
        C.due("9 hour 40", x.wind(40), BAD);
        int[] hours = {0, 39, 5, 5, 7, 1};
        for (int k = 0; k < 6; k++) {
            C.due("9 wind", x.wind(hours[k]), k + 1);
        }
        C.due("9 FULL", x.wind(2), FULL);
        C.due("9 BAD goes ahead", x.wind(40), BAD);
        C.due("9 winds", x.count(4), 6);
        C.due("9 no Sundays", x.count(5), 0);
    }

    private static void promise10() {
        BreadString x = new BreadString();
        C.due("10 hour -1", x.sunday(-1), BAD);
        C.due("10 hour 40", x.sunday(40), BAD);
        int[] hours = {39, 0, 5, 5, 7, 1};
        for (int k = 0; k < 6; k++) {
            C.due("10 sunday", x.sunday(hours[k]), k + 1);
        }
        C.due("10 FULL", x.sunday(2), FULL);
        C.due("10 BAD goes ahead", x.sunday(40), BAD);
        C.due("10 Sundays", x.count(5), 6);
        C.due("10 no winds", x.count(4), 0);
    }

    private static void promise11() {
        BreadString x = Checks.tower("c2a", "0010h");
        C.due("11 what 2", x.back(2), BAD);
        C.due("11 what -1", x.back(-1), BAD);
        C.due("11 no wind", x.back(0), NOT);
        C.due("11 no Sunday", x.back(1), NOT);
        x.wind(5);
        x.wind(0);
        x.sunday(5);
        x.sunday(0);
        C.due("11 wind and Sunday", x.at(0, 0, 1), 5);
        C.due("11 the last Sunday", x.back(1), 1);
        C.due("11 wind and bite", x.at(0, 0, 1), 3);
        C.due("11 the last wind", x.back(0), 1);
        C.due("11 a bite", x.at(0, 0, 1), 8);
        C.due("11 all winds", x.back(0), 0);
        C.due("11 Sundays stay", x.count(5), 1);
        C.due("11 NOT", x.back(0), NOT);
    }

    private static void promise12() {
        BreadString x = Checks.tower("c0a", "0040h;0340h");
        C.due("12 sheet 4", x.read(4), BAD);
        C.due("12 sheet -1", x.read(-1), BAD);
        C.due("12 lost", x.read(0), NULL);
        C.due("12 finding", x.count(8), 1);
        x.sheet(0, 2, 4);
        int[] hours = {3, 39, 40, 0};
        for (int i = 0; i < 4; i++) {
            x.put(0, 2, i, hours[i]);
        }
        C.due("12 up to the one that is no hour", x.read(0), 2);
        C.due("12 winds", x.count(4), 2);
        C.due("12 no wind in hour 0", x.at(0, 0, 1), 40);
        C.due("12 wind in hour 3", x.at(3, 1, 1), 20);
        x.wind(1);
        x.put(0, 2, 2, 0);
        C.due("12 up to the sixth wind", x.read(0), 3);
        C.due("12 full", x.count(4), 6);
        C.due("12 wind in hour 0", x.at(0, 0, 1), 20);
        C.due("12 none may be", x.read(0), 0);
        x.sheet(1, 0, 1);
        x.put(1, 0, 0, 200);
        x.back(0);
        C.due("12 a byte below 0", x.read(1), 0);
        x.sheet(1, 0, 0);
        C.due("12 no items", x.read(1), 0);
        C.due("12 winds stay", x.count(4), 5);
    }
}
