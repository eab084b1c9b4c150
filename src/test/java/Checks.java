/** Counts the answers that are not as due, and makes objects from texts. */
final class Checks {
    private int asked = 0;
    private int wrong = 0;
    private String about = "";

    /** The promise, and the document's sentence, that the answers from here on are due by. */
    void about(int promise, String sentence) {
        about = "promise " + promise + " (" + sentence + "): ";
    }

    void due(String call, long got, long want) {
        asked++;
        if (got != want) {
            wrong++;
            System.out.println(about + call + " answered " + got + ", due is " + want);
        }
    }

    void end() {
        System.out.println(asked + " answers, " + wrong + " of them not as due");
        if (wrong > 0 || asked == 0) {
            System.exit(1);
        }
    }

    static void type(BreadString x, int text, String bytes) {
        for (int i = 0; i < bytes.length(); i++) {
            x.type(text, bytes.charAt(i));
        }
    }

    static BreadString tower(String floors, String baskets) {
        BreadString x = new BreadString();
        type(x, 0, floors);
        type(x, 1, baskets);
        return x;
    }

    /** A tower with winds in these hours. */
    static BreadString windy(String floors, String baskets, int... hours) {
        BreadString x = tower(floors, baskets);
        for (int hour : hours) {
            x.wind(hour);
        }
        return x;
    }

    /** A tower with Sundays in these hours. */
    static BreadString holy(String floors, String baskets, int... hours) {
        BreadString x = tower(floors, baskets);
        for (int hour : hours) {
            x.sunday(hour);
        }
        return x;
    }

    /** A part so many times, with ; between. */
    static String many(int times, String part) {
        return String.join(";", java.util.Collections.nCopies(times, part));
    }

    /** The letters of a note at last, as a to h. */
    static String note(BreadString x, int basket) {
        StringBuilder letters = new StringBuilder();
        for (int i = 0; i < 12; i++) {
            int letter = x.note(basket, i);
            if (letter != BreadString.NONE) {
                letters.append((char) ('a' + letter));
            }
        }
        return letters.toString();
    }

    void dueNote(String call, BreadString x, int basket, String want) {
        asked++;
        if (!note(x, basket).equals(want)) {
            wrong++;
            System.out.println(
                about + call + ": the note of basket " + basket + " is " + note(x, basket) + ", due is " + want);
        }
    }
}
