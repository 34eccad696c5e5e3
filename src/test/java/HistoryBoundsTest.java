import java.util.LinkedHashMap;
import java.util.Map;
import java.util.function.ToIntFunction;

/** The sentences of 'HISTORY' and 'ERRORS' and of the promises 17 to 19 that name a boundary case. */
public final class HistoryBoundsTest {
    public static void main(String[] args) {
        mostStates();
        changesAreRecorded();
        othersAreNotRecorded();
        errorsAreNotRecorded();
        fullHistory();
        undo();
        undoAndGoOn();
        stateIsEverything();
        exceptTextHistoryAndSnapshot();
        keep();
        restore();
        restoreIsAChange();
        noSnapshot();
        noneOnlyWithoutError();
        Checks.end("HistoryBoundsTest");
    }

    private static void same(String what, Map<String, Integer> got, Map<String, Integer> want) {
        Checks.due(what + " is as it was", got.equals(want) ? 1 : 0, 1);
    }

    private static void mostStates() {
        Checks.sentence("HISTORY: a history of at most 4 states is kept; the oldest one is dropped");
        for (int changes = 0; changes <= 12; changes++) {
            PocketCards x = new PocketCards();
            for (int i = 0; i < changes; i++) {
                x.put(i);
                Checks.due("states", x.total(15), Math.min(4, i + 1));
            }
            int states = Math.min(4, changes);
            for (int i = 1; i <= states; i++) {
                Checks.due("undo() " + i + " of " + changes, x.undo(), states - i);
                Checks.due("cards", x.total(0), changes - i);
                Checks.due("states left", x.total(15), states - i);
            }
            Checks.due("undo() once more", x.undo(), -5);
            Checks.due("the oldest one that is kept", x.total(0), changes - states);
        }
    }

    private static Map<String, ToIntFunction<PocketCards>> changes() {
        Map<String, ToIntFunction<PocketCards>> changes = new LinkedHashMap<>();
        changes.put("put", x -> x.put(5));
        changes.put("take", x -> x.take(20));
        changes.put("sleep", x -> x.sleep(30));
        changes.put("wakeAll", x -> x.wakeAll());
        changes.put("leave", x -> x.leave(20, 3));
        changes.put("set 0", x -> x.set(0, 0));
        changes.put("set 1", x -> x.set(1, 0));
        changes.put("shuffle", x -> x.shuffle(4));
        changes.put("shuffle to 0", x -> x.shuffle(0));
        changes.put("forget", x -> x.forget());
        changes.put("ask", x -> x.ask(0, 0));
        changes.put("ask that is silent", x -> x.ask(8, 0));
        changes.put("ask that tells", x -> x.ask(8, 30));
        changes.put("plain walk", x -> x.walk(false));
        changes.put("skipping walk", x -> x.walk(true));
        changes.put("frame", x -> x.frame(16));
        changes.put("rounds", x -> x.rounds(2));
        changes.put("perform", x -> x.perform());
        changes.put("restore", x -> x.restore());
        return changes;
    }

    private static void changesAreRecorded() {
        Checks.sentence("HISTORY: each call of a method that is a change records the state before it");
        changes().forEach((name, change) -> {
            recorded(name, change, 0);
            recorded(name, change, 2);
        });
        recorded("leave no more", x -> x.leave(20, 0), 0);
        Checks.sentence("HISTORY: a change that answers 0 is recorded too");
        PocketCards x = new PocketCards();
        Checks.due("shuffle(0)", x.shuffle(0), 1);
        Checks.due("shuffle(2) answers 0", x.shuffle(2), 0);
        Checks.due("set(1, 1) answers 0", x.set(1, 1), 0);
        Checks.due("walk(true) answers 0", x.walk(true), 0);
        Checks.due("frame(1) answers 0", x.frame(1), 0);
        Checks.due("states", x.total(15), 4);
        Checks.due("undo() of the frame", x.undo() * 10 + x.total(10), 30);
        Checks.due("undo() of the walk", x.undo() * 10 + x.total(4), 20);
        Checks.due("undo() of the set", x.undo() * 10 + x.total(12), 10);
        Checks.due("undo() of the shuffle", x.undo() * 10 + x.total(13), 0);
        PocketCards y = Checks.pocketOf(0);
        Checks.due("leave(0, 1) answers 0", y.leave(0, 1), 0);
        Checks.due("ask(0, 0) answers 0", y.ask(0, 0), 0);
        Checks.due("states", y.total(15), 3);
    }

    /** A full history stays full, and one with room has one state more. */
    private static void recorded(String name, ToIntFunction<PocketCards> change, int undone) {
        PocketCards x = new PocketCards();
        PocketCards y = new PocketCards();
        Pockets.mixed(x);
        Pockets.mixed(y);
        for (int i = 0; i < undone; i++) {
            x.undo();
            y.undo();
        }
        if (undone > 0) {
            // The state of the latest change must not be the one that is due here.
            x.put(99);
            y.put(99);
        }
        Map<String, Integer> before = Twins.stateOf(x);
        int states = Math.min(4, x.total(15) + 1);
        Checks.due(name + " is no error", change.applyAsInt(x) >= 0 ? 1 : 0, 1);
        Checks.due(name + ": states", x.total(15), states);
        Checks.due(name + ": undo()", x.undo(), states - 1);
        same(name + ": the state", Twins.stateOf(x), before);
        x.undo();
        y.undo();
        same(name + ": the state ahead of it", Twins.stateOf(x), Twins.stateOf(y));
    }

    private static void othersAreNotRecorded() {
        Checks.sentence("HISTORY: a method that is not described as a change records nothing");
        PocketCards x = new PocketCards();
        Pockets.mixed(x);
        x.undo();
        x.undo();
        Checks.due("states", x.total(15), 2);
        x.type(';');
        x.clearText();
        x.type('w');
        Checks.due("behind type and clearText", x.total(15), 2);
        x.keep();
        Checks.due("behind keep", x.total(15), 2);
        x.card(0);
        x.ofCard(10, 0);
        x.told(0);
        x.total(0);
        x.count(0, 0);
        Checks.due("behind what there is", x.total(15), 2);
        x.walkTakes(true, 0);
        x.roundsTake(1, 0);
        x.bestFrame();
        x.thickest(0);
        Checks.due("behind what would be", x.total(15), 2);
        x.undo();
        Checks.due("behind undo", x.total(15), 1);
    }

    private static void errorsAreNotRecorded() {
        Checks.sentence("HISTORY: and that returns neither an error nor NONE");
        PocketCards x = new PocketCards();
        Pockets.mixed(x);
        x.undo();
        x.undo();
        int[] answers = {x.put(-1), x.put(10), x.take(5), x.sleep(5), x.sleep(10), x.leave(5, 1), x.leave(20, 201),
            x.leave(20, 0), x.set(2, 0), x.set(0, 2), x.set(0, 1), x.shuffle(-1), x.shuffle(99), x.ask(9, 0),
            x.ask(1, 2), x.frame(0), x.frame(65), x.rounds(0), x.rounds(65)};
        int[] due = {-2, -4, -1, -1, -5, -1, -2, -5, -1, -2, -5, -2, -5, -2, -2, -2, -2, -2, -2};
        for (int i = 0; i < due.length; i++) {
            Checks.due("the call " + i, answers[i], due[i]);
        }
        Checks.due("an error of the text", Checks.performed(x, "a;-5"), -1);
        Checks.due("a fault of the text", Checks.performed(x, "a;"), -102);
        Checks.due("states", x.total(15), 2);
        PocketCards y = new PocketCards();
        Checks.due("wakeAll()", y.wakeAll(), -5);
        Checks.due("forget()", y.forget(), -5);
        Checks.due("restore()", y.restore(), -5);
        Checks.due("undo()", y.undo(), -5);
        Checks.due("no states", y.total(15), 0);
    }

    private static void fullHistory() {
        Checks.sentence("HISTORY: a refused call drops no state");
        PocketCards x = Checks.pocketOf(1, 2, 3, 4, 5);
        x.put(5);
        x.take(9);
        x.wakeAll();
        x.perform();
        for (int left = 3; left >= 0; left--) {
            Checks.due("undo()", x.undo(), left);
        }
        Checks.dueCards("undone four times", x, 1);
    }

    private static void undo() {
        Checks.sentence("Promise 17: NONE if the history is empty");
        Twins.unchanged("undo() of a new object", Pockets::fresh, x -> x.undo(), -5);
        Twins.unchanged("undo() of an empty history", x -> {
            Pockets.mixed(x);
            for (int i = 0; i < 4; i++) {
                x.undo();
            }
        }, x -> x.undo(), -5);
        Checks.sentence("Promise 17: restores the latest state, and removes it; returns how many states are left");
        PocketCards x = new PocketCards();
        Pockets.mixed(x);
        Checks.due("undo() of sleep", x.undo(), 3);
        Checks.due("77 is awake", x.ofCard(77, 0), 1);
        Checks.due("undo() of leave", x.undo(), 2);
        Checks.due("20 stays", x.ofCard(20, 1), 0);
        Checks.due("undo() of ask", x.undo(), 1);
        Checks.due("10 was not told", x.ofCard(10, 2) * 10 + x.total(3), 0);
        Checks.due("10 is awake", x.ofCard(10, 0), 1);
        Checks.due("no asks, no time", x.total(4) + x.total(9), 0);
        Checks.due("undo() of set", x.undo(), 0);
        Checks.due("its value", x.total(12), 0);
        Checks.due("undo() of nothing", x.undo(), -5);
        Checks.dueCards("the puts stay", x, 10, 20, 30, 77);
    }

    private static void undoAndGoOn() {
        Checks.sentence("HISTORY: undo is no change, so that the next undo goes on behind it");
        PocketCards x = Checks.pocketOf(1, 2, 3, 4, 5, 6);
        x.undo();
        x.undo();
        x.put(7);
        Checks.due("states", x.total(15), 3);
        Checks.dueCards("another way", x, 1, 2, 3, 4, 7);
        Checks.due("undo()", x.undo(), 2);
        Checks.dueCards("back from there", x, 1, 2, 3, 4);
        Checks.due("undo()", x.undo(), 1);
        Checks.dueCards("and ahead of it", x, 1, 2, 3);
        for (int i = 10; i < 15; i++) {
            x.put(i);
        }
        Checks.due("full again", x.total(15), 4);
        for (int left = 3; left >= 0; left--) {
            Checks.due("undo()", x.undo(), left);
        }
        Checks.dueCards("the oldest one", x, 1, 2, 3, 10);
    }

    private static void rich(PocketCards x) {
        Pockets.mixed(x);
        x.frame(9);
        x.leave(77, 200);
        x.walk(false);
        x.ask(8, 200);
    }

    private static void stateIsEverything() {
        Checks.sentence("HISTORY: the state is everything except the text, the history and the snapshot");
        PocketCards x = new PocketCards();
        rich(x);
        Map<String, Integer> before = Twins.stateOf(x);
        x.keep();
        x.wakeAll();
        x.set(0, 0);
        x.rounds(3);
        x.forget();
        for (int left = 3; left >= 0; left--) {
            Checks.due("undo()", x.undo(), left);
        }
        same("undone: the state", Twins.stateOf(x), before);
        x.take(20);
        x.put(21);
        x.set(1, 1);
        x.shuffle(3);
        x.leave(21, 1);
        x.wakeAll();
        x.rounds(64);
        Checks.due("restore()", x.restore(), before.get("total(0)"));
        same("restored: the state", Twins.stateOf(x), before);
        PocketCards y = new PocketCards();
        PocketCards z = new PocketCards();
        rich(y);
        rich(z);
        y.rounds(5);
        y.undo();
        Checks.due("what follows is alike", y.rounds(7), z.rounds(7));
        same("what follows", Twins.stateOf(y), Twins.stateOf(z));
    }

    private static void exceptTextHistoryAndSnapshot() {
        Checks.sentence("HISTORY: undo leaves the text and the snapshot");
        PocketCards x = Checks.pocketOf(1);
        x.keep();
        x.put(2);
        Checks.write(x, "-1");
        x.undo();
        Checks.due("the text", x.total(16), 2);
        Checks.due("its order", x.perform(), 1);
        Checks.due("the snapshot", x.restore(), 1);
        PocketCards y = Checks.pocketOf(1);
        y.put(2);
        y.keep();
        y.undo();
        y.undo();
        Checks.due("a snapshot of a state that is undone", y.restore(), 2);
        Checks.sentence("HISTORY: restore leaves the text and the history");
        PocketCards z = new PocketCards();
        z.keep();
        z.put(1);
        z.put(2);
        Checks.write(z, "+1;+2;+3");
        Checks.due("restore()", z.restore(), 0);
        Checks.due("the text", z.total(16), 8);
        Checks.due("one state more", z.total(15), 3);
        Checks.due("its orders", z.perform(), 3);
        Checks.due("undo() of perform", z.undo(), 3);
        Checks.due("undo() of restore", z.undo(), 2);
        Checks.dueCards("ahead of restore", z, 1, 2);
        Checks.due("undo() of put", z.undo(), 1);
        Checks.dueCards("ahead of put", z, 1);
    }

    private static void keep() {
        Checks.sentence("Promise 18: returns how many cards there are");
        for (int cards = 0; cards <= 20; cards++) {
            PocketCards x = Pockets.ofSize(cards);
            Checks.due("keep() of " + cards, x.keep(), cards);
            Checks.due("it is no change", x.total(15), Math.min(4, cards));
            x.put(255);
            x.take(0);
            Checks.due("restore() of " + cards, x.restore(), cards);
        }
        Checks.sentence("Promise 18: in place of an earlier one");
        PocketCards x = Checks.pocketOf(1);
        x.keep();
        x.put(2);
        x.keep();
        x.put(3);
        Checks.due("restore()", x.restore(), 2);
        Checks.due("restore() again", x.restore(), 2);
        x.take(1);
        x.take(2);
        x.keep();
        x.put(4);
        Checks.due("of an empty pocket", x.restore(), 0);
    }

    private static void restore() {
        Checks.sentence("Promise 19: restores the state of the snapshot, which stays");
        PocketCards x = new PocketCards();
        Pockets.mixed(x);
        for (int i = 1; i <= 5; i++) {
            Checks.due("restore()", x.restore(), 2);
            Checks.dueCards("restored", x, 10, 30);
            Checks.due("its x", x.total(13), 99);
            Checks.due("its time", x.total(9), 0);
            Checks.due("10 is awake", x.ofCard(10, 0), 1);
            x.take(10);
            x.walk(false);
            x.shuffle(i);
        }
        Checks.sentence("Promise 19: returns how many cards there are then");
        PocketCards y = Pockets.ofSize(20);
        y.keep();
        for (int i = 0; i < 20; i++) {
            y.take(10 * i);
        }
        Checks.due("twenty", y.restore(), 20);
        Checks.due("full", y.put(255), -3);
    }

    private static void restoreIsAChange() {
        Checks.sentence("Promise 19: this is a change");
        PocketCards x = Checks.pocketOf(1);
        x.keep();
        Checks.due("restore() of the same state", x.restore(), 1);
        Checks.due("is recorded too", x.total(15), 2);
        x.put(2);
        x.restore();
        Checks.due("states", x.total(15), 4);
        Checks.due("undo()", x.undo(), 3);
        Checks.dueCards("ahead of restore", x, 1, 2);
        Checks.due("the snapshot stays", x.restore(), 1);
    }

    private static void noSnapshot() {
        Checks.sentence("Promise 19: NONE if there is no snapshot");
        Twins.unchanged("restore() of a new object", Pockets::fresh, x -> x.restore(), -5);
        Twins.unchanged("restore() without keep()", x -> {
            x.put(1);
            x.put(2);
            x.walk(true);
            Checks.write(x, "w");
        }, x -> x.restore(), -5);
        Checks.sentence("HISTORY: there is one snapshot, empty at first");
        PocketCards x = new PocketCards();
        x.put(1);
        x.undo();
        Checks.due("undo() makes none", x.restore(), -5);
        x.keep();
        Checks.due("that of no cards is one", x.restore(), 0);
    }

    private static void noneOnlyWithoutError() {
        Checks.sentence("ERRORS: NONE is returned only if no error applies");
        PocketCards x = new PocketCards();
        Checks.due("card(-1)", x.card(-1), -2);
        Checks.due("told(-1)", x.told(-1), -2);
        Checks.due("thickest(9)", x.thickest(9), -2);
        Checks.due("thickest(-1)", x.thickest(-1), -2);
        x.put(7);
        Checks.due("ofCard(7, 4) alone", x.ofCard(7, 4), -2);
        Checks.due("leave(7, -1)", x.leave(7, -1), -2);
        Checks.due("set(0, -1)", x.set(0, -1), -2);
        x.sleep(7);
        Checks.due("sleep(8)", x.sleep(8), -1);
    }
}
