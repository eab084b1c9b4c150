import java.util.Random;

/** Runs of calls by lot, BreadString beside the Model: each answer of the one is due from the other. */
public final class ModelTest {
    private static final Checks C = new Checks();
    private static final int RUNS = 600;
    /** No call of a run, with all that it types, takes more than the 70 or so that are left of the document's 512. */
    private static final int CALLS = 440;

    private final Random lots;
    private final BreadString x = new BreadString();
    private final Model m = new Model();
    private final String run;
    private int calls = 0;

    private ModelTest(int seed) {
        lots = new Random(seed);
        run = "run " + seed + ": ";
    }

    public static void main(String[] args) {
        for (int seed = 0; seed < RUNS; seed++) {
            ModelTest test = new ModelTest(seed);
            test.begin();
            while (test.calls < CALLS) {
                test.callOne();
            }
            test.due("digest()", test.x.digest(), test.m.digest());
        }
        C.end();
    }

    private int lot(int from, int to) {
        return from + lots.nextInt(to - from + 1);
    }

    /** Mostly from the range, now and then one beyond it, seldom far off. */
    private int near(int from, int to) {
        int side = lots.nextInt(60);
        return side == 0 ? from - 1 : side == 1 ? to + 1 : side == 2 ? lots.nextInt() : lot(from, to);
    }

    private void due(String call, long got, long want) {
        calls++;
        C.due(run + call, got, want);
    }

    private void typed(int text, String bytes) {
        for (char b : bytes.toCharArray()) {
            due("type(" + text + ", " + (int) b + ")", x.type(text, b), m.type(text, b));
        }
    }

    private void begin() {
        typed(0, floors());
        typed(1, baskets());
        for (int k = lots.nextInt(7); k > 0; k--) {
            wind(lot(0, 15));
        }
        for (int k = lots.nextInt(4); k > 0; k--) {
            sunday(lot(0, 15));
        }
        if (lots.nextBoolean()) {
            set(0, lot(0, 9));
            set(1, lot(1, 9));
        }
    }

    private String floors() {
        StringBuilder text = new StringBuilder();
        String sorts = lots.nextInt(4) == 0 ? "llll" : "pmlc";
        for (int k = lot(0, 9); k > 0; k--) {
            text.append(sorts.charAt(lot(0, 3))).append(lot(0, lots.nextBoolean() ? 9 : 2));
            text.append((char) lot('a', 'h'));
            text.append(k > 1 ? ";" : "");
        }
        return text.toString();
    }

    private String baskets() {
        StringBuilder text = new StringBuilder();
        int latest = lots.nextBoolean() ? 29 : 6;
        int earliest = lots.nextInt(4) == 0 ? latest - 4 : 0;
        int most = lots.nextBoolean() ? 99 : 9;
        for (int k = lot(0, 8); k > 0; k--) {
            int hour = lot(earliest, latest);
            int load = lot(0, most);
            text.append(hour / 10).append(hour % 10).append(load / 10).append(load % 10);
            for (int i = lot(1, 3); i > 0; i--) {
                text.append((char) lot('a', 'h'));
            }
            text.append(k > 1 ? ";" : "");
        }
        return text.toString();
    }

    private void wind(int hour) {
        due("wind(" + hour + ")", x.wind(hour), m.wind(hour));
    }

    private void sunday(int hour) {
        due("sunday(" + hour + ")", x.sunday(hour), m.sunday(hour));
    }

    private void set(int what, int v) {
        due("set(" + what + ", " + v + ")", x.set(what, v), m.set(what, v));
    }

    private int someBasket() {
        calls++;
        return near(0, Math.max(0, x.count(1) - 1));
    }

    private int someFloor() {
        calls++;
        return near(0, Math.max(0, x.count(0) - 1));
    }

    private void callOne() {
        int kind = lots.nextInt(100);
        if (kind < 12) {
            callText();
        } else if (kind < 40) {
            callHours();
        } else if (kind < 52) {
            callPlans();
        } else if (kind < 70) {
            callSeen();
        } else {
            callSheets();
        }
    }

    private void callText() {
        int text = near(0, 1);
        switch (lots.nextInt(14)) {
            case 0 -> {
                int b = near(0, 255);
                due("type(" + text + ", " + b + ")", x.type(text, b), m.type(text, b));
            }
            case 1, 2, 3 -> due("undo(" + text + ")", x.undo(text), m.undo(text));
            case 4 -> {
                due("wipe(" + text + ")", x.wipe(text), m.wipe(text));
                typed(text, text == 0 ? floors() : text == 1 ? baskets() : "");
            }
            case 5, 6 -> {
                int one = lot(0, 1);
                typed(one, one == 0 ? ";" + floors() : ";" + baskets());
                due("fault(" + one + ")", x.fault(one), m.fault(one));
                for (int k = lots.nextInt(4); k > 0; k--) {
                    due("undo(" + one + ")", x.undo(one), m.undo(one));
                }
            }
            case 7 -> set(near(0, 1), near(0, 9));
            case 8 -> wind(near(0, 39));
            case 9 -> sunday(near(0, 39));
            case 10, 11 -> due("back(" + text + ")", x.back(text), m.back(text));
            case 12 -> {
                int s = near(0, 3);
                due("read(" + s + ")", x.read(s), m.read(s));
            }
            default -> due("fault(" + text + ")", x.fault(text), m.fault(text));
        }
    }

    private void callHours() {
        int b = someBasket();
        int f = someFloor();
        int what = near(0, 1);
        switch (lots.nextInt(12)) {
            case 0, 1, 2, 3 -> {
                int hour = near(0, lots.nextBoolean() ? 39 : 15);
                int side = near(0, 3);
                due("at(" + hour + ", " + b + ", " + side + ")", x.at(hour, b, side), m.at(hour, b, side));
            }
            case 4, 5, 6 -> {
                int i = near(0, 11);
                due("note(" + b + ", " + i + ")", x.note(b, i), m.note(b, i));
            }
            case 7 -> due("comes(" + b + ")", x.comes(b), m.comes(b));
            case 8 -> due("bites(" + f + ", " + what + ")", x.bites(f, what), m.bites(f, what));
            case 9 -> due("famine()", x.famine(), m.famine());
            case 10 -> due("first(" + what + ")", x.first(what), m.first(what));
            default -> due("greedy()", x.greedy(), m.greedy());
        }
        int side = near(0, 5);
        due("floor(" + f + ", " + side + ")", x.floor(f, side), m.floor(f, side));
        due("basket(" + b + ", " + side + ")", x.basket(b, side), m.basket(b, side));
    }

    private void callPlans() {
        int b = someBasket();
        int what = near(0, 1);
        switch (lots.nextInt(4)) {
            case 0 -> due("send(" + b + ", " + what + ")", x.send(b, what), m.send(b, what));
            case 1 -> {
                int much = near(0, lots.nextBoolean() ? 99 : 9);
                due("loaf(" + b + ", " + much + ")", x.loaf(b, much), m.loaf(b, much));
            }
            case 2 -> {
                int i = near(-1, 1);
                due("feed(" + b + ", " + i + ")", x.feed(b, i), m.feed(b, i));
            }
            default -> due("still(" + what + ")", x.still(what), m.still(what));
        }
    }

    private void callSeen() {
        int b = someBasket();
        int f = someFloor();
        int what = near(0, 1);
        switch (lots.nextInt(10)) {
            case 0, 1 -> {
                int i = near(0, lots.nextBoolean() ? 11 : 3);
                calls++;
                int own = x.note(b, i);
                int letter = lots.nextInt(4) == 0 || own == BreadString.BAD ? near(0, 8) : own < 0 ? 8 : own;
                due("seen(" + b + ", " + i + ", " + letter + ")", x.seen(b, i, letter), m.seen(b, i, letter));
            }
            case 2 -> due("forget()", x.forget(), m.forget());
            case 3 -> due("never()", x.never(), m.never());
            case 4, 5 -> due("was(" + f + ", " + what + ")", x.was(f, what), m.was(f, what));
            case 6, 7 -> due("ask(" + f + ")", x.ask(f), m.ask(f));
            case 8 -> {
                int c = near(0, 16);
                int much = near(0, lots.nextBoolean() ? 99 : 9);
                due("gust(" + c + ", " + b + ", " + much + ", " + what + ")",
                    x.gust(c, b, much, what), m.gust(c, b, much, what));
            }
            default -> {
                int seed = lots.nextInt();
                int n = near(0, 6);
                due("week(" + seed + ", " + n + ", " + what + ")", x.week(seed, n, what), m.week(seed, n, what));
            }
        }
    }

    private void callSheets() {
        int s = near(0, 3);
        int t = near(0, 3);
        int form = lots.nextInt(3) > 0 ? 1 : near(0, 2);
        int i = near(0, 8);
        int j = near(0, 8);
        int n = near(0, 6);
        switch (lots.nextInt(12)) {
            case 0, 1 -> {
                int size = near(lots.nextInt(4) == 0 ? 0 : 6, lots.nextInt(4) == 0 ? 60 : 12);
                due("sheet(" + s + ", " + form + ", " + size + ")", x.sheet(s, form, size), m.sheet(s, form, size));
            }
            case 2 -> due("lose(" + s + ")", x.lose(s), m.lose(s));
            case 3, 4, 5 -> {
                int v = lots.nextBoolean() ? lot(0, 39) : lots.nextInt();
                due("put(" + s + ", " + form + ", " + i + ", " + v + ")", x.put(s, form, i, v), m.put(s, form, i, v));
            }
            case 6, 7 -> due("get(" + s + ", " + form + ", " + i + ")", x.get(s, form, i), m.get(s, form, i));
            case 8, 9 -> due("copy(" + s + ", " + i + ", " + t + ", " + j + ", " + n + ")",
                x.copy(s, i, t, j, n), m.copy(s, i, t, j, n));
            case 10 -> {
                int b = someBasket();
                due("write(" + b + ", " + s + ")", x.write(b, s), m.write(b, s));
            }
            default -> {
                int what = near(0, 8);
                due("count(" + what + ")", x.count(what), m.count(what));
            }
        }
    }
}
