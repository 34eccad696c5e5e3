import java.util.ArrayList;
import java.util.List;
import java.util.function.Consumer;
import java.util.function.ToIntFunction;

/**
 * Shows that a call changes nothing: of two objects with the same calls behind them one has this call too,
 * and they must look alike, in the state, the history, the text and the snapshot. As a look at the history
 * or the snapshot changes them, each look has two objects of its own.
 */
final class Twins {
    private static final int STATE = 0;
    private static final int MOST_UNDONE = 5;
    private static final int TEXT = 6;
    private static final int SNAPSHOT = 7;
    private static final int LOOKS = 8;

    private Twins() {
    }

    static void unchanged(String call, Consumer<PocketCards> before, ToIntFunction<PocketCards> made, int answer) {
        for (int look = 0; look < LOOKS; look++) {
            PocketCards one = new PocketCards();
            before.accept(one);
            Checks.due(call, made.applyAsInt(one), answer);
            PocketCards other = new PocketCards();
            before.accept(other);
            List<Integer> got = seen(look, one);
            List<Integer> want = seen(look, other);
            Checks.due(call + " leaves " + nameOf(look) + " as before", got.equals(want) ? 1 : 0, 1);
        }
    }

    private static String nameOf(int look) {
        return look == STATE ? "the state" : look == TEXT ? "the text" : look == SNAPSHOT ? "the snapshot"
            : "what " + look + " undo() bring back";
    }

    private static List<Integer> seen(int look, PocketCards x) {
        List<Integer> row = new ArrayList<>();
        if (look == TEXT) {
            row.add(x.perform());
        } else if (look == SNAPSHOT) {
            row.add(x.restore());
        } else {
            for (int i = 0; i < look && i < MOST_UNDONE; i++) {
                row.add(x.undo());
            }
        }
        row.addAll(everything(x));
        return row;
    }

    /** All that can be seen without a change. */
    static List<Integer> everything(PocketCards x) {
        List<Integer> row = new ArrayList<>();
        for (int what = 0; what <= 16; what++) {
            row.add(x.total(what));
        }
        for (int rank = 0; rank < x.total(0); rank++) {
            int name = x.card(rank);
            row.add(name);
            for (int what = 0; what <= 2; what++) {
                row.add(x.ofCard(name, what));
            }
        }
        for (int place = 0; place < x.total(3); place++) {
            row.add(x.told(place));
        }
        return row;
    }

    /** The same but for the history and the text, which are no part of the state. */
    static List<Integer> stateOf(PocketCards x) {
        List<Integer> row = everything(x);
        row.subList(15, 17).clear();
        return row;
    }
}
