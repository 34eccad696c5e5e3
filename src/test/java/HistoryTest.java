import java.util.Arrays;
import java.util.LinkedHashMap;
import java.util.Map;
import java.util.function.ToIntFunction;

/** Promises 17 to 19: undo and the snapshot. */
public final class HistoryTest {
    public static void main(String[] args) {
        undo();
        undoRestoresAll();
        eachChange();
        keep();
        restore();
        Checks.end("HistoryTest");
    }

    private static void undo() {
        PocketCards x = Checks.pocketOf(1, 2, 3, 4, 5, 6);
        Checks.due("undo: four states", x.total(15), 4);
        for (int left = 3; left >= 0; left--) {
            Checks.due("undo()", x.undo(), left);
            Checks.due("undo: cards", x.total(0), 2 + left);
            Checks.due("undo: states", x.total(15), left);
        }
        Checks.due("undo() of nothing", x.undo(), -5);
        Checks.due("undo: the older ones are dropped", x.card(1), 2);
        x.put(9);
        Checks.due("undo: one again", x.undo(), 0);
        Checks.due("undo: cards again", x.total(0), 2);
        x.put(1);
        x.sleep(77);
        x.wakeAll();
        Checks.due("undo: errors and NONE are not recorded", x.undo(), -5);
    }

    private static void undoRestoresAll() {
        PocketCards x = Checks.pocketOf(10, 20, 30);
        x.leave(20, 9);
        x.frame(4);
        x.walk(true);
        x.walk(false);
        long[] before = everything(x);
        Checks.write(x, "+1");
        int[] undone = {x.frame(7), x.set(0, 0), x.set(1, 2), x.forget()};
        Checks.due("undo all: changes", undone.length, 4);
        for (int i = 0; i < 4; i++) {
            x.undo();
        }
        long[] after = everything(x);
        for (int i = 0; i < before.length; i++) {
            Checks.due("undo all: " + i, after[i], before[i]);
        }
        Checks.due("undo all: not the text", x.total(16), 2);
        x.perform();
        x.undo();
        Checks.due("undo perform: not the text", x.total(16), 2);
        Checks.due("undo perform: cards", x.total(0), before[0]);
    }

    /** Each change records the state before it, and undo brings just that back. */
    private static void eachChange() {
        Map<String, ToIntFunction<PocketCards>> changes = new LinkedHashMap<>();
        changes.put("put", x -> x.put(5));
        changes.put("take", x -> x.take(20));
        changes.put("sleep", x -> x.sleep(30));
        changes.put("wakeAll", x -> x.wakeAll());
        changes.put("leave", x -> x.leave(20, 3));
        changes.put("set", x -> x.set(1, 1));
        changes.put("shuffle", x -> x.shuffle(4));
        changes.put("forget", x -> x.forget());
        changes.put("ask", x -> x.ask(0, 0));
        changes.put("walk", x -> x.walk(true));
        changes.put("frame", x -> x.frame(16));
        changes.put("rounds", x -> x.rounds(2));
        changes.put("perform", x -> x.perform());
        changes.put("restore", x -> x.restore());
        changes.forEach((name, change) -> {
            PocketCards x = Checks.pocketOf(30);
            x.keep();
            x.put(20);
            x.put(10);
            x.leave(20, 9);
            x.ask(8, 10);
            Checks.write(x, "+8;v");
            long[] before = everything(x);
            Checks.due(name + " is possible", change.applyAsInt(x) >= 0 ? 1 : 0, 1);
            Checks.due(name + " changes something", Arrays.equals(before, everything(x)) ? 1 : 0, 0);
            Checks.due(name + " is undone", x.undo(), 3);
            Checks.due(name + " is undone wholly", Arrays.equals(before, everything(x)) ? 1 : 0, 1);
        });
    }

    private static long[] everything(PocketCards x) {
        long[] row = new long[15 + 12 + 10];
        for (int i = 0; i < 15; i++) {
            row[i] = x.total(i);
        }
        for (int i = 0; i < 12; i++) {
            row[15 + i] = x.ofCard(10 + 10 * (i / 4), i % 4);
        }
        for (int i = 0; i < 10; i++) {
            row[27 + i] = x.told(i);
        }
        return row;
    }

    private static void keep() {
        PocketCards x = new PocketCards();
        Checks.due("keep() of nothing", x.keep(), 0);
        x.put(1);
        x.put(2);
        Checks.due("keep()", x.keep(), 2);
        Checks.due("keep: states", x.total(15), 2);
        x.undo();
        Checks.due("keep: the latest one", x.restore(), 2);
        x.undo();
        x.undo();
        Checks.due("keep: undo leaves the snapshot", x.restore(), 2);
    }

    private static void restore() {
        PocketCards x = Checks.pocketOf(1, 2);
        Checks.due("restore() of nothing", x.restore(), -5);
        Checks.due("restore of nothing: states", x.total(15), 2);
        x.shuffle(77);
        x.keep();
        x.frame(9);
        x.put(3);
        Checks.write(x, "abc");
        Checks.due("restore()", x.restore(), 2);
        Checks.due("restore: x", x.total(13), 77);
        Checks.due("restore: frames", x.total(10), 0);
        Checks.due("restore: states", x.total(15), 4);
        Checks.due("restore: the text stays", x.total(16), 3);
        Checks.due("restore: undo()", x.undo(), 3);
        Checks.due("restore undone: cards", x.total(0), 3);
        Checks.due("restore undone: frames", x.total(10), 1);
        x.take(3);
        Checks.due("restore() again", x.restore(), 2);
        Checks.due("restore again: frames", x.total(10), 0);
        PocketCards y = new PocketCards();
        y.keep();
        Checks.due("restore() of an empty pocket", y.restore(), 0);
        Checks.due("restore of an empty pocket: states", y.total(15), 1);
    }
}
