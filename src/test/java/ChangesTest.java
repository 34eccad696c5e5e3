/** Each call changes what the document says of it, and nothing else: 'behind these calls all is as before but ..'. */
public final class ChangesTest {
    public static void main(String[] args) {
        cards();
        goingToLeave();
        settings();
        asks();
        walks();
        frames();
        rounds();
        texts();
        history();
        Checks.end("ChangesTest");
    }

    private static void cards() {
        Checks.sentence("Promise 2: puts a card into the pocket, awake");
        for (int name : new int[] {0, 25, 255}) {
            Twins.changed("put(" + name + ")", Pockets::mixed, x -> x.put(name), 5,
                "total(0)=5", "total(1)=3", name + " awake=1", name + " asks=0", name + " told=0");
        }
        Checks.sentence("Promise 3: takes a card out of the pocket");
        Twins.changed("take(10)", Pockets::mixed, x -> x.take(10), 3,
            "total(0)=3", "10 awake=none", "10 asks=none", "10 told=none");
        Twins.changed("take(20)", Pockets::mixed, x -> x.take(20), 3,
            "total(0)=3", "total(1)=1", "total(2)=0", "20 awake=none", "20 asks=none", "20 told=none");
        Twins.changed("take(30)", Pockets::mixed, x -> x.take(30), 3,
            "total(0)=3", "total(1)=1", "30 awake=none", "30 asks=none", "30 told=none");
        Checks.sentence("Promise 4: puts a card to sleep");
        Twins.changed("sleep(20)", Pockets::mixed, x -> x.sleep(20), 1, "total(1)=1", "20 awake=0");
        Twins.changed("sleep(30)", Pockets::mixed, x -> x.sleep(30), 1, "total(1)=1", "30 awake=0");
        Checks.sentence("Promise 5: wakes all cards");
        Twins.changed("wakeAll()", Pockets::mixed, x -> x.wakeAll(), 2, "total(1)=4", "10 awake=1", "77 awake=1");
        Twins.changed("wakeAll() of one going to leave", x -> {
            Pockets.mixed(x);
            x.sleep(20);
        }, x -> x.wakeAll(), 3, "total(1)=4", "10 awake=1", "20 awake=1", "77 awake=1");
    }

    private static void goingToLeave() {
        Checks.sentence("Promise 6: lets a card be going to leave");
        Twins.changed("leave(30, 7)", Pockets::mixed, x -> x.leave(30, 7), 0, "total(2)=2", "30 asks=7");
        Twins.changed("leave(77, 200)", Pockets::mixed, x -> x.leave(77, 200), 0, "total(2)=2", "77 asks=200");
        Twins.changed("leave(10, 1)", Pockets::mixed, x -> x.leave(10, 1), 0, "total(2)=2", "10 asks=1");
        Twins.changed("leave(20, 49)", Pockets::mixed, x -> x.leave(20, 49), 50, "20 asks=49");
        Twins.changed("leave(20, 0)", Pockets::mixed, x -> x.leave(20, 0), 50, "total(2)=0", "20 asks=0");
    }

    private static void settings() {
        Checks.sentence("Promise 7: changes a setting");
        Twins.changed("set(0, 0)", Pockets::mixed, x -> x.set(0, 0), 1, "total(11)=0");
        Twins.changed("set(1, 0)", Pockets::mixed, x -> x.set(1, 0), 2, "total(12)=0");
        Twins.changed("set(1, 1)", Pockets::mixed, x -> x.set(1, 1), 2, "total(12)=1");
        Checks.sentence("Promise 8: changes x");
        Twins.changed("shuffle(0)", Pockets::mixed, x -> x.shuffle(0), 99, "total(13)=0");
        Twins.changed("shuffle(2147483647)", Pockets::mixed, x -> x.shuffle(2147483647), 99, "total(13)=2147483647");
        Checks.sentence("Promise 9: empties the list of those told");
        Twins.changed("forget()", Pockets::mixed, x -> x.forget(), 1, "total(3)=0", "told(0)=none");
    }

    /** Ahead of them there was one ask, of 13 units. */
    private static void asks() {
        Checks.sentence("Promise 10: asks for a beginning");
        Twins.changed("ask(0, 0) that clashes", Pockets::mixed, x -> x.ask(0, 0), 404,
            "total(4)=2", "total(8)=1", "total(9)=25", "20 asks=49");
        Twins.changed("ask(8, 30) that tells", Pockets::mixed, x -> x.ask(8, 30), 30,
            "total(1)=1", "total(3)=2", "total(4)=2", "total(7)=2", "total(9)=26", "20 asks=49", "30 awake=0",
            "30 told=1", "told(1)=30");
        Twins.changed("ask(8, 77) that is silent", Pockets::mixed, x -> x.ask(8, 77), 300,
            "total(4)=2", "total(6)=1", "total(9)=27", "20 asks=49");
        Twins.changed("ask(8, 30) that stays awake", x -> {
            Pockets.mixed(x);
            x.set(0, 0);
        }, x -> x.ask(8, 30), 30, "total(3)=2", "total(4)=2", "total(7)=2", "total(9)=26", "20 asks=49",
            "30 told=1", "told(1)=30");
        Twins.changed("ask(8, 20) by which it leaves", x -> {
            Pockets.mixed(x);
            x.leave(20, 1);
        }, x -> x.ask(8, 20), 20, "total(0)=3", "total(1)=1", "total(2)=0", "total(3)=2", "total(4)=2", "total(7)=2",
            "total(9)=26", "total(14)=1", "20 awake=none", "20 asks=none", "20 told=none", "told(1)=20");
    }

    private static void walks() {
        Checks.sentence("Promise 11: makes a walk");
        // 20 and 30 differ first at the bit 4: clashes of the lengths 0 to 4, silences of 1 to 4, two names.
        Twins.changed("walk(false)", Pockets::mixed, x -> x.walk(false), 2,
            "total(1)=0", "total(3)=3", "total(4)=12", "total(6)=4", "total(7)=3", "total(8)=5", "total(9)=131",
            "20 awake=0", "20 told=1", "20 asks=39", "30 awake=0", "30 told=1", "told(1)=20", "told(2)=30");
        Twins.changed("walk(true)", Pockets::mixed, x -> x.walk(true), 2,
            "total(1)=0", "total(3)=3", "total(4)=4", "total(7)=3", "total(8)=1", "total(9)=49",
            "20 awake=0", "20 told=1", "20 asks=47", "30 awake=0", "30 told=1", "told(1)=20", "told(2)=30");
    }

    private static void frames() {
        Checks.sentence("Promise 12: makes a frame");
        Lot lot = new Lot(99);
        int slot20 = lot.draw(16);
        int slot30 = lot.draw(16);
        int first = slot20 < slot30 ? 20 : 30;
        Checks.due("their slots differ", slot20 == slot30 ? 1 : 0, 0);
        Twins.changed("frame(16)", Pockets::mixed, x -> x.frame(16), 2,
            "total(1)=0", "total(3)=3", "total(5)=16", "total(6)=14", "total(7)=3", "total(9)=" + (13 + 4 + 14 + 18),
            "total(10)=1", "total(13)=" + lot.x(), "20 awake=0", "20 told=1", "20 asks=34", "30 awake=0",
            "30 told=1", "told(1)=" + first, "told(2)=" + (50 - first));
        Twins.changed("frame(1) that clashes", Pockets::mixed, x -> x.frame(1), 0,
            "total(5)=1", "total(8)=1", "total(9)=" + (13 + 4 + 9), "total(10)=1", "total(13)=" + lot.x(),
            "20 asks=49");
    }

    private static void rounds() {
        Checks.sentence("Promise 13: makes rounds");
        Lot lot = new Lot(99);
        lot.draw(1);
        lot.draw(1);
        Twins.changed("rounds(1) of which the card 20 leaves", x -> {
            Pockets.mixed(x);
            x.leave(20, 1);
            x.leave(30, 1);
        }, x -> x.rounds(1), 2, "total(0)=2", "total(1)=0", "total(2)=0", "total(5)=3", "total(6)=2", "total(8)=1",
            "total(9)=" + (13 + 4 + 9 + 4 + 2), "total(10)=2", "total(13)=" + lot.x(), "total(14)=2",
            "20 awake=none", "20 asks=none", "20 told=none", "30 awake=none", "30 asks=none", "30 told=none");
    }

    private static void texts() {
        Checks.sentence("Promise 14: appends a character to the text");
        Twins.changed("type(';')", Pockets::mixed, x -> x.type(';'), 5, "total(16)=5");
        Checks.sentence("Promise 15: empties the text");
        Twins.changed("clearText()", Pockets::mixed, x -> x.clearText(), 4, "total(16)=0");
        Checks.sentence("Promise 16: carries out the orders of the text");
        Twins.changed("perform() of a", x -> {
            Pockets.mixed(x);
            Checks.write(x, "a");
        }, x -> x.perform(), 1, "total(1)=4", "10 awake=1", "77 awake=1");
        Twins.changed("perform() of +8;z8;-30", x -> {
            Pockets.mixed(x);
            Checks.write(x, "+8;z8;-30");
        }, x -> x.perform(), 3, "total(1)=1", "8 awake=0", "8 asks=0", "8 told=0", "30 awake=none", "30 asks=none",
            "30 told=none");
        Twins.changed("perform() of orders that return NONE", x -> {
            Pockets.mixed(x);
            Checks.write(x, "z77;z10");
        }, x -> x.perform(), 2);
    }

    private static void history() {
        Checks.sentence("Promise 17: restores the latest state of the history, and removes it");
        Twins.changed("undo() of sleep(77)", Pockets::mixed, x -> x.undo(), 3, "total(15)=3", "total(1)=3", "77 awake=1");
        Checks.sentence("Promise 18: takes a snapshot of the state");
        Twins.changed("keep()", Pockets::mixed, x -> x.keep(), 4);
        Checks.sentence("Promise 19: restores the state of the snapshot");
        Twins.changed("restore()", Pockets::mixed, x -> x.restore(), 2, "total(0)=2", "total(2)=0", "total(3)=0",
            "total(4)=0", "total(7)=0", "total(9)=0", "total(12)=0", "10 awake=1", "10 told=0", "20 awake=none",
            "20 asks=none", "20 told=none", "77 awake=none", "77 asks=none", "77 told=none", "told(0)=none");
        Twins.changed("restore() of the same state", x -> {
            Pockets.mixed(x);
            x.keep();
        }, x -> x.restore(), 4);
    }
}
