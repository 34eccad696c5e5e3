/** Compares answers with those that are due, and ends a test. */
final class Checks {
    private static int wrong = 0;

    private Checks() {
    }

    static void due(String call, long got, long want) {
        if (got != want) {
            wrong++;
            System.out.println(call + " answered " + got + ", due is " + want);
        }
    }

    /** The totals from first on, one after the other. */
    static void dueTotals(String when, PocketCards cards, int first, long... wants) {
        for (int i = 0; i < wants.length; i++) {
            due(when + ": total(" + (first + i) + ")", cards.total(first + i), wants[i]);
        }
    }

    static void dueTold(String when, PocketCards cards, int... names) {
        due(when + ": total(3)", cards.total(3), names.length);
        for (int i = 0; i < names.length; i++) {
            due(when + ": told(" + i + ")", cards.told(i), names[i]);
        }
    }

    static PocketCards pocketOf(int... names) {
        PocketCards cards = new PocketCards();
        for (int name : names) {
            cards.put(name);
        }
        return cards;
    }

    /** Puts a text in place of the one that is there. */
    static void write(PocketCards cards, String text) {
        cards.clearText();
        for (int i = 0; i < text.length(); i++) {
            cards.type(text.charAt(i));
        }
    }

    static void end(String test) {
        System.out.println(test + ": " + (wrong == 0 ? "all answers are as due" : wrong + " answers are not as due"));
        if (wrong != 0) {
            System.exit(1);
        }
    }
}
