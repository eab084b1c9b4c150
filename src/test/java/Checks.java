/** Counts the answers that are not as due, and makes objects from texts. */
final class Checks {
    private int asked = 0;
    private int wrong = 0;

    void due(String call, long got, long want) {
        asked++;
        if (got != want) {
            wrong++;
            System.out.println(call + " answered " + got + ", due is " + want);
        }
    }

    void end() {
        System.out.println(asked + " answers, " + wrong + " of them not as due");
        if (wrong > 0 || asked == 0) {
            System.exit(1);
        }
    }

    static void type(BreadString x, int text, String bytes) {
        for (int i = 0; i < bytes.length(); i++) {
            x.type(text, bytes.charAt(i));
        }
    }

    static BreadString tower(String floors, String baskets) {
        BreadString x = new BreadString();
        type(x, 0, floors);
        type(x, 1, baskets);
        return x;
    }

    /** The letters of a note at last, as a to h. */
    static String note(BreadString x, int basket) {
        StringBuilder letters = new StringBuilder();
        for (int i = 0; i < 12; i++) {
            int letter = x.note(basket, i);
            if (letter != BreadString.NONE) {
                letters.append((char) ('a' + letter));
            }
        }
        return letters.toString();
    }

    void dueNote(String call, BreadString x, int basket, String want) {
        asked++;
        if (!note(x, basket).equals(want)) {
            wrong++;
            System.out.println(call + ": the note of basket " + basket + " is " + note(x, basket) + ", due is " + want);
        }
    }
}
