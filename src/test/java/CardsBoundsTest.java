/** The sentences of 'CARDS' and of the promises 1 to 9 that name a boundary case, each with a test of its own. */
public final class CardsBoundsTest {
    private static final int LEAST = Integer.MIN_VALUE;
    private static final int MOST = Integer.MAX_VALUE;
    private static final int[] NO_CARDS = {LEAST, -1, 11, 40, 255, 256, MOST};

    public static void main(String[] args) {
        terms();
        newObject();
        put();
        take();
        sleep();
        wakeAll();
        leave();
        set();
        shuffle();
        forget();
        Checks.end("CardsBoundsTest");
    }

    private static void terms() {
        namesOfEightBits();
        mostCards();
        awakeAtFirst();
        goingToLeave();
        settingsAtFirst();
        lastCall();
    }

    private static void namesOfEightBits() {
        Checks.sentence("CARDS: its 8 bits are numbered from 0, the bit 0 being the one that is worth 128");
        for (int bit = 0; bit <= 7; bit++) {
            int name = 128 >> bit;
            PocketCards x = Checks.pocketOf(0, name);
            Checks.due("ask(0, 0) of 0 and " + name, x.ask(0, 0), 400 + bit);
            Checks.due("count(8, " + name + ")", x.count(8, name), 1);
            Checks.due("count(" + (bit + 1) + ", 1)", x.count(bit + 1, 1), 1);
        }
    }

    private static void mostCards() {
        Checks.sentence("CARDS: at most 20 cards are in the pocket at a time");
        PocketCards x = new PocketCards();
        for (int i = 1; i <= 20; i++) {
            Checks.due("put the card " + i, x.put(255 - i), i);
        }
        Checks.due("put one more", x.put(255), -3);
        Checks.due("perform(\"+255\")", Checks.performed(x, "+255"), -3);
        Checks.due("cards", x.total(0), 20);
        x.leave(254, 1);
        x.ask(8, 0);
        Checks.due("put when one has left", x.put(255), 20);
        Checks.due("put one more again", x.put(254), -3);
        Checks.sentence("CARDS: with different names");
        PocketCards y = Checks.pocketOf(7);
        Checks.due("put the same", y.put(7), -4);
        Checks.due("perform(\"+7\")", Checks.performed(y, "+7"), -4);
        Checks.due("cards of one name", y.total(0), 1);
    }

    private static void awakeAtFirst() {
        Checks.sentence("CARDS: a card is awake (at first) or asleep");
        PocketCards x = Checks.pocketOf(0);
        Checks.performed(x, "+255");
        Checks.due("put(0) is awake", x.ofCard(0, 0), 1);
        Checks.due("\"+255\" is awake", x.ofCard(255, 0), 1);
        x.sleep(0);
        Checks.due("asleep", x.ofCard(0, 0), 0);
    }

    private static void goingToLeave() {
        Checks.sentence("CARDS: it can be going to leave: behind a number of asks it is taken out of the pocket");
        PocketCards x = Checks.pocketOf(1, 2);
        Checks.due("not at first", x.ofCard(1, 1), 0);
        x.leave(1, 3);
        for (int left = 2; left >= 1; left--) {
            x.ask(8, 99);
            Checks.due("asks to go", x.ofCard(1, 1), left);
        }
        Checks.due("still there", x.total(0), 2);
        x.ask(8, 99);
        Checks.dueCards("taken out", x, 2);
    }

    private static void settingsAtFirst() {
        Checks.sentence("Settings (range; first value): 0 (0 or 1; 1); 1 (0 to 2; 0)");
        Checks.dueTotals("first", new PocketCards(), 11, 1, 0);
        Checks.sentence("FRAMES: x from 0 to 2147483647 (1 at first)");
        Checks.due("first x", new PocketCards().total(13), 1);
    }

    private static void lastCall() {
        Checks.sentence("An object is used for at most 512 calls");
        PocketCards x = Checks.pocketOf(7);
        for (int call = 2; call <= 511; call++) {
            Checks.due("call " + call, x.ask(8, 99), 300);
        }
        Checks.due("the call 512 is a total(4)", x.total(4), 510);
        PocketCards y = Checks.pocketOf(1, 2, 3);
        for (int i = 3; i < 511; i++) {
            y.rounds(64);
        }
        Checks.due("the call 512 is an undo()", y.undo(), 3);
    }

    private static void newObject() {
        Checks.sentence("Promise 1: creates an empty pocket");
        Checks.dueCards("new", new PocketCards());
        Checks.dueTold("new", new PocketCards());
        Checks.due("ask(0, 0)", new PocketCards().ask(0, 0), 300);
        Checks.due("count(0, 0)", new PocketCards().count(0, 0), 0);
        Checks.due("walk(true)", new PocketCards().walk(true), 0);
        Checks.due("frame(64)", new PocketCards().frame(64), 0);
        Checks.due("rounds(64)", new PocketCards().rounds(64), 1);
        Checks.due("keep()", new PocketCards().keep(), 0);
        Checks.due("ofCard(0, 0)", new PocketCards().ofCard(0, 0), -1);
        Checks.sentence("Two objects have nothing in common");
        PocketCards x = new PocketCards();
        PocketCards y = new PocketCards();
        Pockets.mixed(x);
        Checks.due("the other one is new", Twins.everything(y).equals(Twins.everything(new PocketCards())) ? 1 : 0, 1);
        Checks.due("its snapshot too", y.restore(), -5);
    }

    private static void put() {
        Checks.sentence("Promise 2, name: 0 to 255");
        for (int name = 0; name <= 255; name++) {
            PocketCards x = new PocketCards();
            Checks.due("put(" + name + ")", x.put(name), 1);
            Checks.due("its name", x.card(0), name);
        }
        Checks.sentence("Promise 2: OUT_OF_RANGE");
        for (int name : new int[] {LEAST, -256, -1, 256, 257, 65536, MOST}) {
            Twins.unchanged("put(" + name + ")", Pockets::mixed, x -> x.put(name), -2);
        }
        Checks.sentence("Promise 2: NOT_POSSIBLE if there is a card with this name");
        for (int name : new int[] {10, 20, 30, 77}) {
            Twins.unchanged("put(" + name + ")", Pockets::mixed, x -> x.put(name), -4);
        }
        Checks.sentence("Promise 2: FULL if there are 20");
        Twins.unchanged("put(11) into a full pocket", Pockets::full, x -> x.put(11), -3);
        Checks.due("put(190) as the card 20", Pockets.ofSize(19).put(190), 20);
        Checks.sentence("Promise 2: OUT_OF_RANGE stands ahead of FULL");
        Twins.unchanged("put(-1) into a full pocket", Pockets::full, x -> x.put(-1), -2);
        Twins.unchanged("put(256) into a full pocket", Pockets::full, x -> x.put(256), -2);
        Checks.sentence("Promise 2: NOT_POSSIBLE stands ahead of FULL");
        Twins.unchanged("put(0) into a full pocket", Pockets::full, x -> x.put(0), -4);
        Twins.unchanged("put(190) into a full pocket", Pockets::full, x -> x.put(190), -4);
        putAtEachPlace();
    }

    /** A card that comes between others leaves theirs with them. */
    private static void putAtEachPlace() {
        Checks.sentence("Promise 2: puts a card into the pocket, awake");
        for (int name : new int[] {0, 15, 25, 50, 255}) {
            PocketCards x = new PocketCards();
            Pockets.mixed(x);
            Checks.due("put(" + name + ")", x.put(name), 5);
            Checks.due("awake, to stay, not told yet: " + name,
                x.ofCard(name, 0) * 100 + x.ofCard(name, 1) * 10 + x.ofCard(name, 2), 100);
            Checks.due("10 sleeps", x.ofCard(10, 0), 0);
            Checks.due("10 was told", x.ofCard(10, 2), 1);
            Checks.due("20 leaves", x.ofCard(20, 1), 50);
            Checks.due("30 is awake", x.ofCard(30, 0), 1);
            Checks.due("77 sleeps", x.ofCard(77, 0), 0);
            Checks.due("undo()", x.undo(), 3);
            Checks.dueCards("undone", x, 10, 20, 30, 77);
        }
    }

    private static void take() {
        Checks.sentence("Promise 3: UNKNOWN");
        for (int name : NO_CARDS) {
            Twins.unchanged("take(" + name + ")", Pockets::mixed, x -> x.take(name), -1);
        }
        Twins.unchanged("take(0) from an empty pocket", Pockets::fresh, x -> x.take(0), -1);
        Checks.sentence("Promise 3: returns how many cards there are then");
        PocketCards x = Pockets.ofSize(20);
        for (int left = 19; left >= 0; left--) {
            Checks.due("take the card " + left, x.take(10 * left), left);
            Checks.due("take it again", x.take(10 * left), -1);
        }
        Checks.sentence("Promise 3: takes a card out of the pocket");
        takeFromEachPlace();
    }

    private static void takeFromEachPlace() {
        int[] names = {10, 20, 30, 77};
        int[][] rest = {{20, 30, 77}, {10, 30, 77}, {10, 20, 77}, {10, 20, 30}};
        for (int i = 0; i < names.length; i++) {
            PocketCards x = new PocketCards();
            Pockets.mixed(x);
            Checks.due("take(" + names[i] + ")", x.take(names[i]), 3);
            Checks.dueCards("taken " + names[i], x, rest[i]);
            Checks.due("20 leaves", x.ofCard(20, 1), names[i] == 20 ? -1 : 50);
            Checks.due("10 was told", x.ofCard(10, 2), names[i] == 10 ? -1 : 1);
            Checks.due("77 sleeps", x.ofCard(77, 0), names[i] == 77 ? -1 : 0);
            Checks.dueTold("the list stays", x, 10);
            Checks.due("a card that is taken has not left", x.total(14), 0);
            Checks.due("undo()", x.undo(), 3);
            Checks.dueCards("undone", x, names);
        }
    }

    private static void sleep() {
        Checks.sentence("Promise 4: UNKNOWN");
        for (int name : NO_CARDS) {
            Twins.unchanged("sleep(" + name + ")", Pockets::mixed, x -> x.sleep(name), -1);
        }
        Twins.unchanged("sleep(0) in an empty pocket", Pockets::fresh, x -> x.sleep(0), -1);
        Checks.sentence("Promise 4: NONE if it is asleep already");
        Twins.unchanged("sleep(77) that was put to sleep", Pockets::mixed, x -> x.sleep(77), -5);
        Twins.unchanged("sleep(10) that was told", Pockets::mixed, x -> x.sleep(10), -5);
        Checks.sentence("Promise 4: returns how many cards are awake then");
        PocketCards x = Pockets.ofSize(20);
        for (int left = 19; left >= 0; left--) {
            Checks.due("sleep, " + left + " left", x.sleep(10 * left), left);
            Checks.due("sleep again", x.sleep(10 * left), -5);
        }
    }

    private static void wakeAll() {
        Checks.sentence("Promise 5: NONE if none was");
        Twins.unchanged("wakeAll() in an empty pocket", Pockets::fresh, x -> x.wakeAll(), -5);
        Twins.unchanged("wakeAll() of a card that is awake", x -> x.put(5), x -> x.wakeAll(), -5);
        Twins.unchanged("wakeAll() again", x -> {
            Pockets.mixed(x);
            x.wakeAll();
        }, x -> x.wakeAll(), -5);
        Checks.sentence("Promise 5: returns how many were asleep");
        for (int asleep = 1; asleep <= 20; asleep++) {
            PocketCards x = Pockets.ofSize(20);
            for (int i = 0; i < asleep; i++) {
                x.sleep(10 * i);
            }
            Checks.due("wakeAll() of " + asleep, x.wakeAll(), asleep);
            Checks.due("awake", x.total(1), 20);
        }
    }

    private static void leave() {
        Checks.sentence("Promise 6, asks: 1 to 200, or 0: it is not going to leave");
        for (int asks = 1; asks <= 200; asks++) {
            PocketCards x = Checks.pocketOf(5);
            Checks.due("leave(5, " + asks + ")", x.leave(5, asks), 0);
            Checks.due("asks", x.ofCard(5, 1), asks);
            Checks.due("leave(5, 0)", x.leave(5, 0), asks);
            Checks.due("no asks", x.ofCard(5, 1), 0);
            Checks.due("no card leaves", x.total(2), 0);
        }
        Checks.sentence("Promise 6: UNKNOWN");
        for (int name : NO_CARDS) {
            Twins.unchanged("leave(" + name + ", 1)", Pockets::mixed, x -> x.leave(name, 1), -1);
            Twins.unchanged("leave(" + name + ", 0)", Pockets::mixed, x -> x.leave(name, 0), -1);
        }
        Checks.sentence("Promise 6: OUT_OF_RANGE");
        for (int asks : new int[] {LEAST, -1, 201, 256, MOST}) {
            Twins.unchanged("leave(20, " + asks + ")", Pockets::mixed, x -> x.leave(20, asks), -2);
            Twins.unchanged("leave(30, " + asks + ")", Pockets::mixed, x -> x.leave(30, asks), -2);
        }
        Checks.sentence("Promise 6: UNKNOWN stands ahead of OUT_OF_RANGE");
        Twins.unchanged("leave(40, 201)", Pockets::mixed, x -> x.leave(40, 201), -1);
        Twins.unchanged("leave(-1, -1)", Pockets::mixed, x -> x.leave(-1, -1), -1);
        leaveTwice();
    }

    private static void leaveTwice() {
        Checks.sentence("Promise 6: NONE if this is so already");
        Twins.unchanged("leave(20, 50)", Pockets::mixed, x -> x.leave(20, 50), -5);
        Twins.unchanged("leave(30, 0)", Pockets::mixed, x -> x.leave(30, 0), -5);
        Twins.unchanged("leave(77, 0)", Pockets::mixed, x -> x.leave(77, 0), -5);
        Twins.unchanged("leave(20, 49) behind an ask", x -> {
            Pockets.mixed(x);
            x.ask(8, 0);
        }, x -> x.leave(20, 49), -5);
        Checks.sentence("Promise 6: in place of what was told it before");
        PocketCards x = Checks.pocketOf(5, 6);
        Checks.due("leave(5, 3)", x.leave(5, 3), 0);
        x.ask(8, 99);
        Checks.due("returns what is left", x.leave(5, 3), 2);
        x.ask(8, 99);
        x.ask(8, 99);
        Checks.due("begins again", x.ofCard(5, 1), 1);
        Checks.due("leave(5, 0)", x.leave(5, 0), 1);
        x.ask(8, 99);
        Checks.due("stays", x.total(0), 2);
        x.sleep(5);
        Checks.due("a card that sleeps can leave", x.leave(5, 1), 0);
        x.ask(8, 99);
        Checks.dueCards("left", x, 6);
    }

    private static void set() {
        Checks.sentence("Promise 7, setting: 0 or 1");
        for (int setting : new int[] {LEAST, -1, 2, 3, MOST}) {
            Twins.unchanged("set(" + setting + ", 0)", Pockets::mixed, x -> x.set(setting, 0), -1);
        }
        Checks.sentence("Promise 7, value: in its range");
        for (int value : new int[] {LEAST, -1, 2, 3, MOST}) {
            Twins.unchanged("set(0, " + value + ")", Pockets::mixed, x -> x.set(0, value), -2);
        }
        for (int value : new int[] {LEAST, -1, 3, 4, MOST}) {
            Twins.unchanged("set(1, " + value + ")", Pockets::mixed, x -> x.set(1, value), -2);
        }
        Checks.sentence("Promise 7: UNKNOWN stands ahead of OUT_OF_RANGE");
        Twins.unchanged("set(2, 3)", Pockets::mixed, x -> x.set(2, 3), -1);
        Twins.unchanged("set(-1, -1)", Pockets::mixed, x -> x.set(-1, -1), -1);
        Checks.sentence("Promise 7: NONE if it has this value already");
        Twins.unchanged("set(0, 1)", Pockets::mixed, x -> x.set(0, 1), -5);
        Twins.unchanged("set(1, 2)", Pockets::mixed, x -> x.set(1, 2), -5);
        Twins.unchanged("set(1, 0) of a new object", Pockets::fresh, x -> x.set(1, 0), -5);
        Checks.sentence("Promise 7: returns the previous value");
        int[][] calls = {{0, 0, 1}, {1, 1, 0}, {0, 1, 0}, {1, 2, 1}, {1, 0, 2}, {1, 2, 0}, {1, 1, 2}, {1, 0, 1}};
        PocketCards x = new PocketCards();
        for (int[] call : calls) {
            Checks.due("set(" + call[0] + ", " + call[1] + ")", x.set(call[0], call[1]), call[2]);
            Checks.due("its value", x.total(11 + call[0]), call[1]);
        }
    }

    private static void shuffle() {
        Checks.sentence("Promise 8, number: 0 to 2147483647");
        int[] numbers = {0, 1, 2, 2147483646, 2147483647, 1073741824, 0};
        PocketCards x = Checks.pocketOf(1);
        x.shuffle(5);
        int previous = 5;
        for (int number : numbers) {
            Checks.due("shuffle(" + number + ")", x.shuffle(number), previous);
            Checks.due("x", x.total(13), number);
            previous = number;
        }
        Checks.sentence("Promise 8: OUT_OF_RANGE");
        for (int number : new int[] {LEAST, LEAST + 1, -2, -1}) {
            Twins.unchanged("shuffle(" + number + ")", Pockets::mixed, y -> y.shuffle(number), -2);
        }
        Checks.sentence("Promise 8: NONE if it is x already");
        Twins.unchanged("shuffle(1) of a new object", Pockets::fresh, y -> y.shuffle(1), -5);
        Twins.unchanged("shuffle(99)", Pockets::mixed, y -> y.shuffle(99), -5);
        Twins.unchanged("shuffle(most)", y -> y.shuffle(MOST), y -> y.shuffle(MOST), -5);
        Twins.unchanged("shuffle(0)", y -> y.shuffle(0), y -> y.shuffle(0), -5);
        Twins.unchanged("shuffle to what a frame has drawn", y -> {
            y.put(1);
            y.frame(1);
        }, y -> y.shuffle(1103527590), -5);
    }

    private static void forget() {
        Checks.sentence("Promise 9: NONE if it was empty");
        Twins.unchanged("forget() of a new object", Pockets::fresh, x -> x.forget(), -5);
        Twins.unchanged("forget() again", x -> {
            Pockets.mixed(x);
            x.forget();
        }, x -> x.forget(), -5);
        Checks.sentence("Promise 9: returns how many names were in it");
        for (int names = 1; names <= 201; names += 40) {
            PocketCards x = Checks.pocketOf(4);
            x.set(0, 0);
            for (int i = 0; i < names; i++) {
                x.ask(0, 0);
            }
            Checks.due("forget() of " + names, x.forget(), Math.min(200, names));
            Checks.due("told(0)", x.told(0), -5);
            Checks.due("told behind it", x.ask(0, 0), 4);
            Checks.dueTold("begins anew", x, 4);
        }
    }
}
