import java.math.BigInteger;

/** Each sentence about what was seen, chance and weeks that names a boundary case: promises 24 to 30. */
public final class SeenEdgesTest {
    private static final int NONE = -1, BAD = -2, FULL = -4;
    private static final int LEAST = Integer.MIN_VALUE, MOST = Integer.MAX_VALUE;
    private static final long LONG_BAD = Long.MIN_VALUE + 2;
    /** A basket of hour 29 comes up in hour 40, and with one floor more not by it. */
    private static final String IN_TIME = Checks.many(5, "l0a") + ";p0a";
    private static final String LATE = IN_TIME + ";p0a";
    private static final Checks C = new Checks();

    public static void main(String[] args) {
        seenNumbers();
        seenLetters();
        forgotten();
        never();
        bitBits();
        wordBits();
        ask();
        askThoseBites();
        gustEnds();
        gustTerms();
        gustRefusals();
        weeks();
        weekNumbers();
        C.end();
    }

    private static void seenNumbers() {
        C.about(24, "SEEN, 8 at most: the i-th letter (0 to 11) of a BASKET (0 to 7) was one (0 to 7; 8). BAD; FULL");
        BreadString x = new BreadString();
        for (int wrong : new int[] {LEAST, -1, 8, MOST}) {
            C.due("seen(" + wrong + ", 0, 0)", x.seen(wrong, 0, 0), BAD);
        }
        for (int wrong : new int[] {LEAST, -1, 12, MOST}) {
            C.due("seen(0, " + wrong + ", 0)", x.seen(0, wrong, 0), BAD);
        }
        for (int wrong : new int[] {LEAST, -1, 9, MOST}) {
            C.due("seen(0, 0, " + wrong + ")", x.seen(0, 0, wrong), BAD);
        }
        C.due("none", x.count(7), 0);
        int[][] edges = {{0, 0, 0}, {7, 0, 0}, {0, 11, 0}, {0, 0, 7}, {0, 0, 8}, {7, 11, 8}, {0, 0, 0}, {0, 0, 0}};
        for (int k = 0; k < 8; k++) {
            C.due("seen " + (k + 1), x.seen(edges[k][0], edges[k][1], edges[k][2]), k + 1);
        }
        C.due("a ninth", x.seen(0, 0, 0), FULL);
        C.due("a ninth that is BAD", x.seen(8, 0, 0), BAD);
        C.due("eight", x.count(7), 8);
        C.due("all forgotten", x.forget(), 8);
        C.due("room again", x.seen(0, 0, 0), 1);
    }

    /** Whether a floor's own bite is among those that fit, with this alone seen. */
    private static void dueFits(BreadString x, int basket, int i, int letter, boolean fits) {
        x.forget();
        x.seen(basket, i, letter);
        int bits = x.was(0, 1);
        C.due("seen(" + basket + ", " + i + ", " + letter + ") fits", bits >> x.floor(0, 2) & 1, fits ? 1 : 0);
    }

    private static void seenLetters() {
        C.about(24, "at last was one (0 to 7; 8: there is none; of a BASKET that there is not: never)");
        BreadString x = Checks.tower("p1c", "0010ab;0410h");
        String[] notes = {"abc", "hc"};
        for (int basket = 0; basket <= 7; basket++) {
            for (int i = 0; i <= 3; i++) {
                String note = basket < 2 ? notes[basket] : "";
                int due = i < note.length() ? note.charAt(i) - 'a' : 8;
                for (int letter = 0; letter <= 8; letter++) {
                    dueFits(x, basket, i, letter, basket < 2 && letter == due);
                }
                x = Checks.tower("p1c", "0010ab;0410h");
            }
        }
        BreadString longer = Checks.tower("l1a;l1b;l1c;l1d;l1e", "0099fgh");
        longer.set(0, 0);
        longer.set(1, 9);
        dueFits(longer, 0, 11, 4, true);
        dueFits(longer, 0, 11, 8, false);
        BreadString late = Checks.tower(LATE, "2910h");
        dueFits(late, 0, 0, 7, true);
        C.about(24, "of a BASKET that there is not (with a FAULT there are none)");
        late.type(1, ';');
        C.due("was(0, 0)", late.was(0, 0), 0);
        late.forget();
        C.due("nothing seen", late.was(0, 0), 1023);
    }

    private static void forgotten() {
        C.about(25, "All SEEN are forgotten: how many");
        BreadString x = Checks.tower("p1c", "0010a;0410h");
        C.due("none", x.forget(), 0);
        x.seen(1, 0, 0);
        C.due("it does not fit", x.was(0, 0), 0);
        C.due("one", x.forget(), 1);
        C.due("all fit", x.was(0, 0), 1023);
        C.due("none again", x.forget(), 0);
        x.seen(1, 0, 7);
        C.due("a new one, of another basket", x.was(0, 0), 1023);
        C.due("count(7)", x.count(7), 1);
    }

    private static void never() {
        C.about(26, "WINDS each of which, had it alone not been, makes all that was SEEN come out so, as bits");
        BreadString x = Checks.tower("c0a;p5b", "0001h");
        C.due("no winds", x.never(), 0);
        x.seen(0, 1, 1);
        C.due("no winds, though it came out so", x.never(), 0);
        for (int k = 0; k < 5; k++) {
            x.wind(20);
        }
        C.due("five that are nowhere", x.never(), 31);
        x.wind(0);
        C.due("the sixth alone", x.never(), 32);
        C.due("count(4)", x.count(4), 6);
        x.forget();
        C.due("nothing SEEN", x.never(), 63);
        x.seen(0, 1, 8);
        C.due("all but the sixth", x.never(), 31);
        x.seen(0, 0, 7);
        x.seen(0, 1, 1);
        C.due("all that was SEEN, not some", x.never(), 0);
        C.about(26, "had it alone not been");
        BreadString two = Checks.windy("c0a;p5b", "0001h", 0, 0);
        two.seen(0, 1, 1);
        C.due("two in one hour", two.never(), 0);
    }

    private static void bitBits() {
        C.about(27, "BIT of a FLOOR: how much it BITES (0 to 9), in place of its own, likewise, as bits");
        BreadString x = Checks.tower("p5a;m1b", "0009h");
        C.due("nothing SEEN", x.was(0, 0), 1023);
        x.seen(0, 0, 7);
        C.due("9 alone leaves mice nothing", x.was(0, 0), 1 << 9);
        x.forget();
        x.seen(0, 1, 8);
        C.due("0 alone adds no word", x.was(0, 0), 1);
        x.forget();
        x.seen(0, 1, 0);
        C.due("1 to 9", x.was(0, 0), 1022);
        x.seen(0, 0, 1);
        C.due("1 to 8", x.was(0, 0), 510);
        x.seen(0, 0, 2);
        C.due("none", x.was(0, 0), 0);
        C.due("its own stays", x.floor(0, 1), 5);
        C.due("in hours too", x.bites(0, 1), 5);
        for (int wrong : new int[] {LEAST, -1, 2, 9, MOST}) {
            C.due("was(" + wrong + ", 0)", x.was(wrong, 0), BAD);
            C.due("was(0, " + wrong + ")", x.was(0, wrong), BAD);
        }
    }

    private static void wordBits() {
        C.about(27, "WORDS of a FLOOR: 0 to 7, in place of its own, likewise, as bits");
        BreadString x = Checks.tower("p5d;m1b", "0009h");
        C.due("nothing SEEN", x.was(0, 1), 255);
        for (int word = 0; word <= 7; word++) {
            x.seen(0, 1, word);
            C.due("word " + word, x.was(0, 1), 1 << word);
            x.forget();
        }
        x.seen(0, 1, 8);
        C.due("it bit, so there is one", x.was(0, 1), 0);
        C.due("its own stays", x.floor(0, 2), 3);
        C.due("in the note too", x.note(0, 1), 3);
        BreadString calm = Checks.tower("p0d", "0009h");
        calm.seen(0, 1, 8);
        C.due("it bit not, so any", calm.was(0, 1), 255);
    }

    private static void ask() {
        C.about(28, "the BASKET of which the greatest number of those bites by which as much LOAD is left is least");
        // of a load below 9 all bites of that or more leave nothing
        C.due("9 tells all apart", Checks.tower("p1a", "0003h;0409g;0805f").ask(0), 1);
        int[][] loads = {{7, 8, 2}, {7, 2, 8}, {8, 7, 2}, {2, 7, 8}, {8, 2, 7}, {2, 8, 7}};
        for (int[] l : loads) {
            String text = "000" + l[0] + "h;040" + l[1] + "g;080" + l[2] + "f";
            int most = l[0] > l[1] && l[0] > l[2] ? 0 : l[1] > l[2] ? 1 : 2;
            C.due("the greatest load tells most, " + text, Checks.tower("p1a", text).ask(0), most);
        }
        C.due("5 tells more than 3 and 4", Checks.tower("p1a", "0003h;0405g;0804f").ask(0), 1);
        C.due("the last of eight",
            Checks.tower("p1a", "0001h;0401g;0801f;1201e;1601d;2001c;2401b;2802a").ask(0), 7);
        // an eighth of each is left: 2 by bites 0 to 2 or 0 to 4, 1 by the others
        BreadString eighths = Checks.windy("p1a;c0b;c0b;c0b", "0018h;0420g", 1, 2, 3, 5, 6, 7);
        C.due("seven and five", eighths.ask(0), 1);
        C.about(28, "of like ones the least");
        C.due("two alike", Checks.tower("p1a", "0005h;0405g").ask(0), 0);
        C.due("two that are best", Checks.tower("p1a", "0003h;0405g;0805f").ask(0), 1);
        C.due("all tell nothing", Checks.tower("p1a", "0000h;0400g").ask(0), 0);
        C.about(28, "NONE: there are none");
        C.due("no baskets", Checks.tower("p1a", "").ask(0), NONE);
        C.due("a FAULT", Checks.tower("p1a", "0003h;").ask(0), NONE);
        C.about(28, "LOAD is left in it at last");
        BreadString halved = Checks.windy("p1a;c0b", "0009h;0406g", 1);
        C.due("half in twos, the other in one of four", halved.ask(0), 0);
        halved.wind(5);
        C.due("both half", halved.ask(0), 0);
        C.due("what a late one has counts", Checks.tower("p1a;" + LATE, "0003h;2909g").ask(0), 1);
        C.about(28, "BAD");
        for (int wrong : new int[] {LEAST, -1, 1, MOST}) {
            C.due("ask(" + wrong + ")", Checks.tower("p1a", "").ask(wrong), BAD);
        }
    }

    private static void askThoseBites() {
        C.about(28, "of those bites");
        // left at last of the first: 3 3 2 2 1 1 0 0 0 0 by bites 0 to 9; of the second 1 and then 0
        BreadString x = Checks.windy("p2a;c0b;m1c", "0009h;0402g", 1);
        C.due("of all, four and nine", x.ask(0), 0);
        x.seen(1, 0, 2);
        C.due("mice had bread", x.was(0, 0), 3);
        C.due("of 0 and 1, two and one", x.ask(0), 1);
        x.forget();
        x.seen(1, 0, 6);
        C.due("mice had none", x.was(0, 0), 1020);
        C.due("of 2 to 9, four and eight", x.ask(0), 0);
        C.due("its own stays", x.floor(0, 1), 2);
        // left at last of the third: 1 and then 0; of the second 5 4 3 2 1 and then 0
        BreadString three = Checks.windy("p2a;c0b;m1c", "0009h;0406f;0802g", 1);
        C.due("of all, four, five and nine", three.ask(0), 0);
        three.seen(2, 0, 2);
        C.due("of 0 and 1, two, one and one", three.ask(0), 1);
        three.seen(2, 0, 6);
        C.due("of none, all alike", three.ask(0), 0);
    }

    private static void dueGust(String name, BreadString x, int c, int much, long above, long below) {
        C.due(name + ", gust(" + c + ", 0, " + much + ", 0)", x.gust(c, 0, much, 0), above);
        C.due(name + ", gust(" + c + ", 0, " + much + ", 1)", x.gust(c, 0, much, 1), below);
    }

    private static void gustEnds() {
        C.about(29, "each of WINDS is by c sixteenths (0 to 16), by itself");
        BreadString x = Checks.windy("c0a", "0099h", 0);
        for (int c = 0; c <= 16; c++) {
            int common = BigInteger.valueOf(16).gcd(BigInteger.valueOf(16 - c)).intValue();
            dueGust("one wind", x, c, 99, (16 - c) / common, 16 / common);
        }
        for (int k = 1; k < 6; k++) {
            x.wind(0);
        }
        dueGust("none of six", x, 1, 99, 15L * 15 * 15 * 15 * 15 * 15, 1L << 24);
        dueGust("none of six, by half", x, 8, 99, 1, 64);
        dueGust("none of six, never", x, 0, 99, 1, 1);
        dueGust("none of six, always", x, 16, 99, 0, 1);
        C.due("the winds stay", x.count(4), 6);
        C.due("and blow", x.famine(), 50);
        C.about(29, "that a BASKET COMES UP with so much LOAD (0 to 99), or more");
        dueGust("99 is not there", Checks.tower("", "0098h"), 5, 99, 0, 1);
        dueGust("98 is", Checks.tower("", "0098h"), 5, 98, 1, 1);
        dueGust("0 or more", Checks.tower("p9a", "0000h"), 5, 0, 1, 1);
        dueGust("1 or more", Checks.tower("p9a", "0000h"), 5, 1, 0, 1);
        dueGust("up in hour 40", Checks.tower(IN_TIME, "2910h"), 5, 10, 1, 1);
        dueGust("not by hour 40", Checks.tower(LATE, "2910h"), 5, 0, 0, 1);
    }

    private static void gustTerms() {
        C.about(29, "FRACTIONS are told in lowest terms, above and below (0 by 1)");
        BreadString six = Checks.windy("c0a;c0b", "0010h", 0, 0, 0, 1, 1, 1);
        for (int c = 0; c <= 16; c++) {
            dueGust("sure", six, c, 2, 1, 1);
            dueGust("not to be", six, c, 11, 0, 1);
            BigInteger calm = BigInteger.valueOf(16 - c).pow(3);
            BigInteger all = BigInteger.ONE.shiftLeft(12);
            BigInteger any = all.pow(2).subtract(all.subtract(calm).pow(2));
            BigInteger common = any.gcd(all.pow(2));
            dueGust("one hour calm", six, c, 5, any.divide(common).longValueExact(),
                all.pow(2).divide(common).longValueExact());
        }
        dueGust("no winds", Checks.tower("c0a", "0010h"), 7, 10, 1, 1);
        dueGust("no winds, not to be", Checks.tower("c0a", "0010h"), 7, 11, 0, 1);
    }

    private static void gustRefusals() {
        C.about(29, "BAD. (As the least long.): a refusal -x is the least long and x more");
        BreadString x = Checks.windy("c0a", "0010h", 0);
        for (int wrong : new int[] {LEAST, -1, 100, MOST}) {
            C.due("c " + wrong, x.gust(wrong, 0, 0, 0), LONG_BAD);
            C.due("basket " + wrong, x.gust(5, wrong, 0, 0), LONG_BAD);
            C.due("much " + wrong, x.gust(5, 0, wrong, 0), LONG_BAD);
            C.due("what " + wrong, x.gust(5, 0, 0, wrong), LONG_BAD);
        }
        C.due("c 17", x.gust(17, 0, 0, 0), LONG_BAD);
        C.due("basket 1", x.gust(5, 1, 0, 0), LONG_BAD);
        C.due("what 2", x.gust(5, 0, 0, 2), LONG_BAD);
        C.due("no baskets", new BreadString().gust(5, 0, 0, 0), LONG_BAD);
    }

    private static final String WEEK_FLOORS = "p3a;l2b;c4c;m1d;l5e;p2f";
    private static final String WEEK_BASKETS = "0045abc;0630d;1220ef;1750g;2399h;2940a";

    private static int lot(int seed, int k) {
        BigInteger all = BigInteger.ONE.shiftLeft(32);
        BigInteger at = BigInteger.valueOf(seed);
        for (int step = 0; step <= k; step++) {
            at = at.multiply(BigInteger.valueOf(1103515245)).add(BigInteger.valueOf(12345)).mod(all);
        }
        return at.shiftRight(16).intValueExact() % 40;
    }

    private static void weeks() {
        C.about(30, "LOTS: as ints that wrap; its upper 16 bits as a number from 0 on, modulo 40");
        int[] seeds = {0, 1, -1, 7, LEAST, LEAST + 1, MOST, MOST - 1, 65535, 65536, -65536, 12345, 0x40000000};
        for (int seed : seeds) {
            dueWeeks(seed);
        }
        for (int k = 1; k <= 60; k++) {
            dueWeeks(k * 71428571);
        }
    }

    /** Told as Sundays in another object, the lots do the same. */
    private static void dueWeeks(int seed) {
        BreadString x = Checks.holy(WEEK_FLOORS, WEEK_BASKETS, 0, 1, 2, 12, 17, 29);
        BreadString told = Checks.tower(WEEK_FLOORS, WEEK_BASKETS);
        x.wind(14);
        told.wind(14);
        for (int n = 0; n <= 6; n++) {
            if (n > 0) {
                told.sunday(lot(seed, n - 1));
            }
            C.due("week(" + seed + ", " + n + ", 0)", x.week(seed, n, 0), 45 + 30 + 20 + 50 + 99 + 40 - told.famine());
            C.due("week(" + seed + ", " + n + ", 1)", x.week(seed, n, 1), told.count(6));
        }
    }

    private static void weekNumbers() {
        C.about(30, "n LOTS of 40 (0 to 6) are SUNDAYS, in place of those told. BAD");
        BreadString x = Checks.holy("p3a", "0010h", 0);
        C.due("none in place of the one told", x.week(1, 0, 0), 7);
        C.due("and its bite", x.week(1, 0, 1), 1);
        C.due("the one told stays", x.famine(), 0);
        C.due("count(5)", x.count(5), 1);
        for (int wrong : new int[] {LEAST, -1, 7, MOST}) {
            C.due("week(1, " + wrong + ", 0)", x.week(1, wrong, 0), BAD);
            C.due("week(1, 0, " + wrong + ")", x.week(1, 0, wrong), BAD);
        }
        C.due("what 2", x.week(1, 0, 2), BAD);
        C.due("no baskets", new BreadString().week(MOST, 6, 0), 0);
        C.due("no bites", new BreadString().week(LEAST, 6, 1), 0);
        C.due("no floors", Checks.tower("", "0010h").week(3, 6, 0), 10);
    }
}
