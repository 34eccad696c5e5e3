/** Promises 1 to 9: a new object, and the cards. */
public final class CardsTest {
    public static void main(String[] args) {
        newObject();
        put();
        putAgain();
        take();
        sleep();
        wakeAll();
        leave();
        set();
        shuffle();
        forget();
        Checks.end("CardsTest");
    }

    private static void newObject() {
        PocketCards x = new PocketCards();
        Checks.dueTotals("new", x, 0, 0, 0, 0, 0, 0, 0, 0, 0, 0, 0, 0, 1, 0, 1, 0, 0, 0);
        Checks.due("new: card(0)", x.card(0), -5);
        Checks.due("new: told(0)", x.told(0), -5);
        Checks.due("new: undo()", x.undo(), -5);
        Checks.due("new: restore()", x.restore(), -5);
        Checks.due("new: clearText()", x.clearText(), 0);
        Checks.due("new: perform()", x.perform(), -100);
        Checks.due("new: thickest(0)", x.thickest(0), -5);
    }

    private static void put() {
        PocketCards x = new PocketCards();
        Checks.due("put(-1)", x.put(-1), -2);
        Checks.due("put(256)", x.put(256), -2);
        Checks.due("put(least)", x.put(Integer.MIN_VALUE), -2);
        Checks.due("put(most)", x.put(Integer.MAX_VALUE), -2);
        Checks.due("put refused: states", x.total(15), 0);
        Checks.due("put(255)", x.put(255), 1);
        Checks.due("put(0)", x.put(0), 2);
        Checks.due("put(100)", x.put(100), 3);
        Checks.due("put(100) again", x.put(100), -4);
        Checks.due("put: states", x.total(15), 3);
        Checks.due("put: awake", x.total(1), 3);
        Checks.due("put: card(0)", x.card(0), 0);
        Checks.due("put: card(1)", x.card(1), 100);
        Checks.due("put: card(2)", x.card(2), 255);
        for (int i = 4; i <= 20; i++) {
            Checks.due("put(" + i + ")", x.put(i), i);
        }
        Checks.due("put into a full pocket", x.put(200), -3);
        Checks.due("put(-1) into a full pocket", x.put(-1), -2);
        Checks.due("put a card of a full pocket", x.put(20), -4);
        Checks.due("put: cards", x.total(0), 20);
        Checks.due("take from a full pocket", x.take(4), 19);
        Checks.due("take from a full pocket: the last", x.card(18), 255);
        Checks.due("take from a full pocket: the one ahead", x.card(17), 100);
        Checks.due("put with room again", x.put(254), 20);
    }

    /** A card that comes again is a new one. */
    private static void putAgain() {
        PocketCards x = Checks.pocketOf(9, 12);
        x.ask(8, 9);
        x.leave(9, 5);
        x.take(9);
        Checks.due("put(9) again", x.put(9), 2);
        Checks.due("put again: awake", x.ofCard(9, 0), 1);
        Checks.due("put again: leaves", x.ofCard(9, 1), 0);
        Checks.due("put again: tellings", x.ofCard(9, 2), 0);
        Checks.dueTold("put again", x, 9);
        PocketCards y = Checks.pocketOf(9);
        y.sleep(9);
        y.leave(9, 5);
        y.take(9);
        y.put(9);
        Checks.due("put alone again: awake", y.ofCard(9, 0), 1);
        Checks.due("put alone again: leaves", y.ofCard(9, 1), 0);
    }

    private static void take() {
        PocketCards x = Checks.pocketOf(1, 2, 3);
        x.ask(8, 3);
        x.leave(3, 7);
        Checks.due("take(4)", x.take(4), -1);
        Checks.due("take(-1)", x.take(-1), -1);
        Checks.due("take(256)", x.take(256), -1);
        Checks.due("take(2)", x.take(2), 2);
        Checks.due("take(2) again", x.take(2), -1);
        Checks.due("take: card(0)", x.card(0), 1);
        Checks.due("take: card(1)", x.card(1), 3);
        Checks.due("take: card(2)", x.card(2), -5);
        Checks.due("take: 1 is awake", x.ofCard(1, 0), 1);
        Checks.due("take: 3 is awake", x.ofCard(3, 0), 0);
        Checks.due("take: 3 leaves", x.ofCard(3, 1), 7);
        Checks.due("take: 3 was told", x.ofCard(3, 2), 1);
        Checks.due("take(1)", x.take(1), 1);
        Checks.due("take(3)", x.take(3), 0);
        Checks.due("take: none has left", x.total(14), 0);
        Checks.due("take: undo()", x.undo(), 3);
        Checks.due("take: cards", x.total(0), 1);
    }

    private static void sleep() {
        PocketCards x = Checks.pocketOf(5, 6);
        Checks.due("sleep(7)", x.sleep(7), -1);
        Checks.due("sleep(-1)", x.sleep(-1), -1);
        Checks.due("sleep(5)", x.sleep(5), 1);
        Checks.due("sleep(5) again", x.sleep(5), -5);
        Checks.due("sleep: states", x.total(15), 3);
        Checks.due("sleep: 5", x.ofCard(5, 0), 0);
        Checks.due("sleep: 6", x.ofCard(6, 0), 1);
        Checks.due("sleep(6)", x.sleep(6), 0);
    }

    private static void wakeAll() {
        PocketCards x = Checks.pocketOf(5, 6, 7);
        Checks.due("wakeAll() of none asleep", x.wakeAll(), -5);
        Checks.due("wakeAll: states", x.total(15), 3);
        x.sleep(5);
        x.ask(8, 7);
        Checks.due("wakeAll()", x.wakeAll(), 2);
        Checks.due("wakeAll: awake", x.total(1), 3);
        Checks.due("wakeAll() again", x.wakeAll(), -5);
        Checks.due("wakeAll() in an empty pocket", new PocketCards().wakeAll(), -5);
    }

    private static void leave() {
        PocketCards x = Checks.pocketOf(5, 6);
        Checks.due("leave(7, 201)", x.leave(7, 201), -1);
        Checks.due("leave(-1, 1)", x.leave(-1, 1), -1);
        Checks.due("leave(5, 201)", x.leave(5, 201), -2);
        Checks.due("leave(5, -1)", x.leave(5, -1), -2);
        Checks.due("leave(5, 0)", x.leave(5, 0), -5);
        Checks.due("leave refused: states", x.total(15), 2);
        Checks.due("leave(5, 200)", x.leave(5, 200), 0);
        Checks.due("leave(5, 200) again", x.leave(5, 200), -5);
        Checks.due("leave(5, 1)", x.leave(5, 1), 200);
        Checks.due("leave: leaving", x.total(2), 1);
        Checks.due("leave(5, 0) again", x.leave(5, 0), 1);
        Checks.due("leave: states", x.total(15), 4);
        x.ask(0, 0);
        Checks.due("leave: not going to", x.total(0), 2);
    }

    private static void set() {
        PocketCards x = new PocketCards();
        Checks.due("set(-1, 9)", x.set(-1, 9), -1);
        Checks.due("set(2, 0)", x.set(2, 0), -1);
        Checks.due("set(0, -1)", x.set(0, -1), -2);
        Checks.due("set(0, 2)", x.set(0, 2), -2);
        Checks.due("set(1, -1)", x.set(1, -1), -2);
        Checks.due("set(1, 3)", x.set(1, 3), -2);
        Checks.due("set(0, 1)", x.set(0, 1), -5);
        Checks.due("set(1, 0)", x.set(1, 0), -5);
        Checks.due("set refused: states", x.total(15), 0);
        Checks.due("set(0, 0)", x.set(0, 0), 1);
        Checks.due("set(1, 2)", x.set(1, 2), 0);
        Checks.due("set(1, 1)", x.set(1, 1), 2);
        Checks.dueTotals("set", x, 11, 0, 1);
        Checks.due("set: states", x.total(15), 3);
        Checks.due("set(0, 1) back", x.set(0, 1), 0);
    }

    private static void shuffle() {
        PocketCards x = new PocketCards();
        Checks.due("shuffle(-1)", x.shuffle(-1), -2);
        Checks.due("shuffle(least)", x.shuffle(Integer.MIN_VALUE), -2);
        Checks.due("shuffle(1)", x.shuffle(1), -5);
        Checks.due("shuffle refused: states", x.total(15), 0);
        Checks.due("shuffle(most)", x.shuffle(2147483647), 1);
        Checks.due("shuffle: x", x.total(13), 2147483647);
        Checks.due("shuffle(0)", x.shuffle(0), 2147483647);
        Checks.due("shuffle(5)", x.shuffle(5), 0);
        Checks.due("shuffle: states", x.total(15), 3);
        // From 2147483647 the next x is 2147483648 - 1103515245 + 12345.
        PocketCards y = Checks.pocketOf(1);
        y.shuffle(2147483647);
        y.frame(1);
        Checks.due("shuffle: x behind the most", y.total(13), 1043980748);
    }

    private static void forget() {
        PocketCards x = Checks.pocketOf(5, 6);
        Checks.due("forget() of nothing", x.forget(), -5);
        Checks.due("forget refused: states", x.total(15), 2);
        x.ask(8, 5);
        x.ask(8, 6);
        Checks.due("forget()", x.forget(), 2);
        Checks.dueTold("forget", x);
        Checks.due("forget: tellings stay", x.ofCard(5, 2), 1);
        Checks.due("forget: names so far stay", x.total(7), 2);
        Checks.due("forget() again", x.forget(), -5);
        x.undo();
        Checks.dueTold("forget undone", x, 5, 6);
    }
}
