import java.util.Arrays;
import java.util.Map;
import java.util.Set;
import java.util.TreeMap;
import java.util.TreeSet;
import java.util.function.Consumer;
import java.util.function.ToIntFunction;

/**
 * Shows that a call changes nothing: of two objects with the same calls behind them one has this call too,
 * and they must look alike, in the state, the history, the text and the snapshot. As a look at the history
 * or the snapshot changes them, each look has two objects of its own.
 */
final class Twins {
    private static final int STATE = 0;
    private static final int MOST_UNDONE = 5;
    private static final int TEXT = 6;
    private static final int SNAPSHOT = 7;
    private static final int LOOKS = 8;

    private Twins() {
    }

    static void unchanged(String call, Consumer<PocketCards> before, ToIntFunction<PocketCards> made, int answer) {
        for (int look = 0; look < LOOKS; look++) {
            PocketCards one = new PocketCards();
            before.accept(one);
            Checks.due(call, made.applyAsInt(one), answer);
            PocketCards other = new PocketCards();
            before.accept(other);
            Map<String, Integer> got = seen(look, one);
            Map<String, Integer> want = seen(look, other);
            Checks.due(call + " leaves " + nameOf(look) + " as before", got.equals(want) ? 1 : 0, 1);
        }
    }

    private static String nameOf(int look) {
        return look == STATE ? "the state" : look == TEXT ? "the text" : look == SNAPSHOT ? "the snapshot"
            : "what " + look + " undo() bring back";
    }

    private static Map<String, Integer> seen(int look, PocketCards x) {
        Map<String, Integer> answers = new TreeMap<>();
        if (look == TEXT) {
            answers.put("perform()", x.perform());
        } else if (look == SNAPSHOT) {
            answers.put("restore()", x.restore());
        } else {
            for (int i = 0; i < look && i < MOST_UNDONE; i++) {
                answers.put("undo() " + i, x.undo());
            }
        }
        answers.putAll(everything(x));
        return answers;
    }

    /** All that can be seen without a change, by what it is. */
    static Map<String, Integer> everything(PocketCards x) {
        Map<String, Integer> row = new TreeMap<>();
        for (int what = 0; what <= 16; what++) {
            row.put("total(" + what + ")", x.total(what));
        }
        int cards = x.total(0);
        for (int rank = 0; rank < cards; rank++) {
            int name = x.card(rank);
            row.put(name + " awake", x.ofCard(name, 0));
            row.put(name + " asks", x.ofCard(name, 1));
            row.put(name + " told", x.ofCard(name, 2));
        }
        int names = x.total(3);
        for (int place = 0; place < names; place++) {
            row.put("told(" + place + ")", x.told(place));
        }
        return row;
    }

    /** The same but for the history and the text, which are no part of the state. */
    static Map<String, Integer> stateOf(PocketCards x) {
        Map<String, Integer> row = everything(x);
        row.remove("total(15)");
        row.remove("total(16)");
        return row;
    }

    /** What differs behind a call, as "what=value", or "what=none" if it is no longer there: this and nothing else. */
    static void changed(String call, Consumer<PocketCards> before, ToIntFunction<PocketCards> made, int answer,
            String... due) {
        PocketCards x = new PocketCards();
        before.accept(x);
        Map<String, Integer> earlier = everything(x);
        Checks.due(call, made.applyAsInt(x), answer);
        Map<String, Integer> later = everything(x);
        Set<String> got = new TreeSet<>();
        later.forEach((what, value) -> {
            if (!value.equals(earlier.get(what))) {
                got.add(what + "=" + value);
            }
        });
        earlier.keySet().stream().filter(what -> !later.containsKey(what)).forEach(what -> got.add(what + "=none"));
        Set<String> want = new TreeSet<>(Arrays.asList(due));
        Checks.due(call + " changes " + want + ", and has changed " + got, got.equals(want) ? 1 : 0, 1);
    }
}
