import java.util.HashSet;
import java.util.Set;

/** Compares answers with those that are due, and ends a test. */
final class Checks {
    private static int wrong = 0;
    private static final Set<String> SENTENCES = new HashSet<>();
    private static String sentence = "";

    private Checks() {
    }

    /** The sentence of the document that the answers from here on belong to. */
    static void sentence(String words) {
        sentence = words;
        SENTENCES.add(words);
    }

    static void due(String call, long got, long want) {
        if (got != want) {
            wrong++;
            System.out.println((sentence.isEmpty() ? "" : "[" + sentence + "] ")
                + call + " answered " + got + ", due is " + want);
        }
    }

    /** The totals from first on, one after the other. */
    static void dueTotals(String when, PocketCards cards, int first, long... wants) {
        for (int i = 0; i < wants.length; i++) {
            due(when + ": total(" + (first + i) + ")", cards.total(first + i), wants[i]);
        }
    }

    static void dueTold(String when, PocketCards cards, int... names) {
        due(when + ": total(3)", cards.total(3), names.length);
        for (int i = 0; i < names.length; i++) {
            due(when + ": told(" + i + ")", cards.told(i), names[i]);
        }
    }

    /** The cards by rising names, and no more. */
    static void dueCards(String when, PocketCards cards, int... names) {
        due(when + ": total(0)", cards.total(0), names.length);
        for (int i = 0; i < names.length; i++) {
            due(when + ": card(" + i + ")", cards.card(i), names[i]);
        }
        due(when + ": card(" + names.length + ")", cards.card(names.length), PocketCards.NONE);
    }

    static PocketCards pocketOf(int... names) {
        PocketCards cards = new PocketCards();
        for (int name : names) {
            cards.put(name);
        }
        return cards;
    }

    /** Puts a text in place of the one that is there. */
    static void write(PocketCards cards, String text) {
        cards.clearText();
        for (int i = 0; i < text.length(); i++) {
            cards.type(text.charAt(i));
        }
    }

    static int performed(PocketCards cards, String text) {
        write(cards, text);
        return cards.perform();
    }

    static void end(String test) {
        String of = SENTENCES.isEmpty() ? "" : SENTENCES.size() + " sentences, ";
        System.out.println(test + ": " + of
            + (wrong == 0 ? "all answers are as due" : wrong + " answers are not as due"));
        if (wrong != 0) {
            System.exit(1);
        }
    }
}
