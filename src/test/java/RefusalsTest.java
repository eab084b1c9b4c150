import java.util.ArrayList;
import java.util.List;

/**
 * "Refusals, the first that fits, in the order told at each act ... They change nothing (FINDINGS but count() 8)."
 * Each call is refused on one of two objects that were made alike; all that both answer thereafter is the same.
 */
public final class RefusalsTest {
    private static final int BAD = -2, NOT = -3, FULL = -4;
    private static final int NULL = -11, INDEX = -12, CAST = -13, STORE = -14, SIZE = -15;
    private static final int LEAST = Integer.MIN_VALUE, MOST = Integer.MAX_VALUE;
    private static final long LONG_BAD = Long.MIN_VALUE + 2;
    private static final int BARE = 0, RICH = 1, STUFFED = 2, STATES = 3;
    private static final int[] ANY = {LEAST, MOST};
    private static final Checks C = new Checks();

    /** A call with its numbers. */
    interface Call {
        long on(BreadString x, int[] v);
    }

    /** What a call takes: a row of the least and the greatest number for each of its parameters. */
    record Act(int promise, String name, Call call, long bad, int[][] takes) {
    }

    public static void main(String[] args) {
        for (int state = 0; state < STATES; state++) {
            for (Act act : acts(state)) {
                dueBad(act, state);
            }
        }
        for (Act act : acts(RICH)) {
            dueTaken(act);
        }
        settings();
        notAndFull();
        findings();
        C.end();
    }

    private static BreadString made(int state) {
        if (state == BARE) {
            return new BreadString();
        }
        if (state == RICH) {
            return rich();
        }
        BreadString x = Checks.tower(Checks.many(9, "c2b"), Checks.many(8, "0009abc"));
        for (int k = 0; k < 6; k++) {
            x.wind(k);
            x.sunday(2 * k);
        }
        for (int k = 0; k < 8; k++) {
            x.seen(k, 0, 1);
        }
        return x;
    }

    private static BreadString rich() {
        BreadString x = Checks.tower("p3a;l2b;m4c;c1d", "0045abc;0130d;0520ef");
        x.wind(4);
        x.wind(6);
        x.sunday(3);
        x.seen(0, 0, 2);
        x.set(0, 2);
        x.set(1, 3);
        for (int s = 0; s < 4; s++) {
            int form = s % 3;
            x.sheet(s, form, 3);
            for (int i = 0; i < 3; i++) {
                x.put(s, form, i, 10 * s + i);
            }
        }
        return x;
    }

    private static int[] to(int least, int greatest) {
        return new int[] {least, greatest};
    }

    private static Act act(int promise, String name, Call call, int[]... takes) {
        return new Act(promise, name, call, BAD, takes);
    }

    private static List<Act> acts(int state) {
        int[] floor = to(0, new int[] {-1, 3, 8}[state]);
        int[] basket = to(0, new int[] {-1, 2, 7}[state]);
        int[] two = to(0, 1);
        List<Act> all = new ArrayList<>();
        all.add(act(2, "type", (x, v) -> x.type(v[0], v[1]), two, to(0, 255)));
        all.add(act(3, "wipe", (x, v) -> x.wipe(v[0]), two));
        all.add(act(4, "undo", (x, v) -> x.undo(v[0]), two));
        all.add(act(5, "fault", (x, v) -> x.fault(v[0]), two));
        all.add(act(6, "floor", (x, v) -> x.floor(v[0], v[1]), floor, to(0, 2)));
        all.add(act(7, "basket", (x, v) -> x.basket(v[0], v[1]), basket, to(0, 5)));
        all.add(act(9, "wind", (x, v) -> x.wind(v[0]), to(0, 39)));
        all.add(act(10, "sunday", (x, v) -> x.sunday(v[0]), to(0, 39)));
        all.add(act(11, "back", (x, v) -> x.back(v[0]), two));
        all.add(act(12, "read", (x, v) -> x.read(v[0]), to(0, 3)));
        all.add(act(13, "at", (x, v) -> x.at(v[0], v[1], v[2]), to(0, 39), basket, to(0, 3)));
        all.add(act(14, "note", (x, v) -> x.note(v[0], v[1]), basket, to(0, 11)));
        all.add(act(15, "comes", (x, v) -> x.comes(v[0]), basket));
        all.add(act(16, "bites", (x, v) -> x.bites(v[0], v[1]), floor, two));
        all.add(act(18, "first", (x, v) -> x.first(v[0]), two));
        all.add(act(20, "send", (x, v) -> x.send(v[0], v[1]), basket, two));
        all.add(act(21, "loaf", (x, v) -> x.loaf(v[0], v[1]), basket, to(0, 99)));
        all.add(act(22, "feed", (x, v) -> x.feed(v[0], v[1]), basket, to(-1, 1)));
        all.add(act(23, "still", (x, v) -> x.still(v[0]), two));
        all.add(act(24, "seen", (x, v) -> x.seen(v[0], v[1], v[2]), to(0, 7), to(0, 11), to(0, 8)));
        all.add(act(27, "was", (x, v) -> x.was(v[0], v[1]), floor, two));
        all.add(act(28, "ask", (x, v) -> x.ask(v[0]), floor));
        all.add(new Act(29, "gust", (x, v) -> x.gust(v[0], v[1], v[2], v[3]), LONG_BAD,
            new int[][] {to(0, 16), basket, to(0, 99), two}));
        all.add(act(30, "week", (x, v) -> x.week(v[0], v[1], v[2]), ANY, to(0, 6), two));
        addSheetActs(all, basket);
        return all;
    }

    private static void addSheetActs(List<Act> all, int[] basket) {
        int[] sheet = to(0, 3);
        int[] form = to(0, 2);
        all.add(act(31, "sheet", (x, v) -> x.sheet(v[0], v[1], v[2]), sheet, form, to(LEAST, 60)));
        all.add(act(32, "lose", (x, v) -> x.lose(v[0]), sheet));
        all.add(act(33, "put", (x, v) -> x.put(v[0], v[1], v[2], v[3]), sheet, form, ANY, ANY));
        all.add(new Act(34, "get", (x, v) -> x.get(v[0], v[1], v[2]), LEAST, new int[][] {sheet, form, ANY}));
        all.add(act(35, "copy", (x, v) -> x.copy(v[0], v[1], v[2], v[3], v[4]), sheet, ANY, sheet, ANY, ANY));
        all.add(act(36, "write", (x, v) -> x.write(v[0], v[1]), basket, sheet));
        all.add(act(37, "count", (x, v) -> x.count(v[0]), to(0, 8)));
    }

    private static String called(Act act, int[] v) {
        StringBuilder numbers = new StringBuilder();
        for (int one : v) {
            numbers.append(numbers.length() == 0 ? "" : ", ").append(one);
        }
        return act.name() + "(" + numbers + ")";
    }

    /** Each parameter is too small or too large, with all others at their least or greatest: BAD ahead of all else. */
    private static void dueBad(Act act, int state) {
        C.about(act.promise(), "BAD -2 (a number not as told, no such thing), the first that fits; it changes nothing");
        BreadString x = made(state);
        BreadString like = made(state);
        for (int k = 0; k < act.takes().length; k++) {
            for (int wrong : wrongOf(act.takes()[k])) {
                for (int side = 0; side <= 1; side++) {
                    int[] v = new int[act.takes().length];
                    for (int j = 0; j < v.length; j++) {
                        v[j] = act.takes()[j][side];
                    }
                    v[k] = wrong;
                    C.due("state " + state + ": " + called(act, v), act.call().on(x, v), act.bad());
                }
            }
        }
        dueAlike(act.name() + " in state " + state, x, like, 0);
    }

    private static List<Integer> wrongOf(int[] takes) {
        List<Integer> wrong = new ArrayList<>();
        if (takes[0] != LEAST) {
            wrong.addAll(List.of(takes[0] - 1, LEAST, LEAST + 1));
        }
        if (takes[1] != MOST) {
            wrong.addAll(List.of(takes[1] + 1, MOST, MOST - 1));
        }
        return wrong;
    }

    /** The least and the greatest numbers are not BAD. */
    private static void dueTaken(Act act) {
        C.about(act.promise(), "the least and the greatest number are as told");
        if (act.promise() == 34) {
            return;
        }
        for (int k = 0; k < act.takes().length; k++) {
            for (int side = 0; side <= 1; side++) {
                int[] v = new int[act.takes().length];
                for (int j = 0; j < v.length; j++) {
                    v[j] = Math.max(act.takes()[j][0], Math.min(act.takes()[j][1], 0));
                }
                v[k] = act.takes()[k][side];
                long got = act.call().on(rich(), v);
                C.due(called(act, v) + " (" + got + ") is BAD", got == act.bad() ? 1 : 0, 0);
            }
        }
    }

    private static void settings() {
        C.about(8, "HUNGER (0 to 9), WEAR (1 to 9). BAD; it changes nothing");
        BreadString x = rich();
        BreadString like = rich();
        int[][] wrong = {{-1, 5}, {2, 5}, {LEAST, 5}, {MOST, 5}, {0, -1}, {0, 10}, {0, LEAST}, {0, MOST}, {1, 0},
            {1, 10}, {1, -1}, {1, LEAST}, {1, MOST}, {-1, -1}, {2, 10}};
        for (int[] v : wrong) {
            C.due("set(" + v[0] + ", " + v[1] + ")", x.set(v[0], v[1]), BAD);
        }
        dueAlike("set", x, like, 0);
    }

    private static void dueRefused(int promise, String sentence, int state, Call call, int want) {
        C.about(promise, sentence);
        BreadString x = made(state);
        BreadString like = made(state);
        C.due("in state " + state, call.on(x, null), want);
        dueAlike("in state " + state, x, like, want < -10 ? -10 - want : 0);
    }

    private static void notAndFull() {
        String not = "NOT; it changes nothing";
        String full = "FULL; it changes nothing";
        dueRefused(4, not, BARE, (x, v) -> x.undo(0), NOT);
        dueRefused(4, not, BARE, (x, v) -> x.undo(1), NOT);
        dueRefused(11, not, BARE, (x, v) -> x.back(0), NOT);
        dueRefused(11, not, BARE, (x, v) -> x.back(1), NOT);
        dueRefused(2, full, STUFFED, (x, v) -> x.type(0, 'p'), FULL);
        dueRefused(2, full, STUFFED, (x, v) -> x.type(1, 'a'), FULL);
        dueRefused(9, full, STUFFED, (x, v) -> x.wind(7), FULL);
        dueRefused(10, full, STUFFED, (x, v) -> x.sunday(7), FULL);
        dueRefused(24, full, STUFFED, (x, v) -> x.seen(0, 0, 0), FULL);
    }

    private static void findings() {
        String sentence = "FINDINGS (answers -10 less the number; they change nothing but count() 8)";
        dueRefused(12, sentence, STUFFED, (x, v) -> x.read(0), NULL);
        dueRefused(12, sentence, BARE, (x, v) -> x.read(3), NULL);
        dueRefused(32, sentence, STUFFED, (x, v) -> x.lose(0), NULL);
        dueRefused(36, sentence, STUFFED, (x, v) -> x.write(0, 3), NULL);
        dueRefused(33, sentence, STUFFED, (x, v) -> x.put(0, 0, 0, 7), NULL);
        dueRefused(33, sentence, RICH, (x, v) -> x.put(0, 1, 0, 7), CAST);
        dueRefused(33, sentence, RICH, (x, v) -> x.put(0, 0, 3, 7), INDEX);
        dueRefused(33, sentence, RICH, (x, v) -> x.put(1, 1, -1, 7), INDEX);
        dueRefused(35, sentence, STUFFED, (x, v) -> x.copy(0, 0, 1, 0, 0), NULL);
        dueRefused(35, sentence, RICH, (x, v) -> x.copy(0, 0, 1, 0, 1), STORE);
        dueRefused(35, sentence, RICH, (x, v) -> x.copy(0, 1, 3, 0, 3), INDEX);
        dueRefused(35, sentence, RICH, (x, v) -> x.copy(0, 0, 3, 1, 3), INDEX);
        dueRefused(35, sentence, RICH, (x, v) -> x.copy(3, 0, 0, 0, -1), INDEX);
        dueRefused(31, sentence, RICH, (x, v) -> x.sheet(2, 0, -1), SIZE);
        dueRefused(31, sentence, BARE, (x, v) -> x.sheet(2, 0, -1), SIZE);
        String least = "NULL, CAST, INDEX are the least int (count() 8 tells)";
        int[][] wrong = {{0, 1, 0, 3}, {0, 0, 3, 2}, {2, 2, -1, 2}};
        for (int[] w : wrong) {
            C.about(34, least);
            BreadString x = rich();
            C.due("get(" + w[0] + ", " + w[1] + ", " + w[2] + ")", x.get(w[0], w[1], w[2]), LEAST);
            dueAlike("get", x, rich(), w[3]);
        }
    }

    /** Takes both objects apart, call by call; count(8) of the first is the finding, all else is alike. */
    private static void dueAlike(String name, BreadString x, BreadString like, int finding) {
        C.due(name + ": count(8)", x.count(8), finding);
        C.due(name + ": digest()", x.digest(), like.digest());
        for (int s = 0; s < 4; s++) {
            for (int form = 0; form <= 2; form++) {
                for (int i = 0; i <= 3; i++) {
                    C.due(name + ": item " + i, x.get(s, form, i), like.get(s, form, i));
                }
            }
            C.due(name + ": size of sheet " + s, x.lose(s), like.lose(s));
        }
        for (int left = 6; left > 0; left--) {
            C.due(name + ": back(0)", x.back(0), like.back(0));
            C.due(name + ": back(1)", x.back(1), like.back(1));
            C.due(name + ": digest() behind them", x.digest(), like.digest());
        }
        C.due(name + ": forget()", x.forget(), like.forget());
        for (int what = 0; what <= 1; what++) {
            C.due(name + ": set(" + what + ", 5)", x.set(what, 5), like.set(what, 5));
        }
        for (int text = 0; text <= 1; text++) {
            for (int k = x.count(2 + text); k > 0; k--) {
                C.due(name + ": fault(" + text + ")", x.fault(text), like.fault(text));
                C.due(name + ": undo(" + text + ")", x.undo(text), like.undo(text));
            }
            C.due(name + ": count of the text", x.count(2 + text), like.count(2 + text));
        }
    }
}
