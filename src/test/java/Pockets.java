/** Pockets with some calls behind them, to begin a test from. */
final class Pockets {
    private Pockets() {
    }

    static void fresh(PocketCards x) {
        // A new object is as it should be.
    }

    /**
     * The cards 10 (told, asleep), 20 (leaves behind 50 asks), 30, and 77 (asleep). The history has four
     * states, the snapshot 10 and 30 and another x, and the text two orders.
     */
    static void mixed(PocketCards x) {
        x.put(10);
        x.put(30);
        x.shuffle(99);
        x.keep();
        x.put(20);
        x.put(77);
        x.set(1, 2);
        x.ask(8, 10);
        x.leave(20, 50);
        x.sleep(77);
        Checks.write(x, "+8;v");
    }

    /** The twenty cards 0, 10, 20 and so on up to 190, of which 30 sleeps. */
    static void full(PocketCards x) {
        for (int i = 0; i < 20; i++) {
            x.put(10 * i);
        }
        x.keep();
        x.sleep(30);
        Checks.write(x, "-0;w");
    }

    /** A pocket of the first cards of a full one, all awake. */
    static PocketCards ofSize(int cards) {
        PocketCards x = new PocketCards();
        for (int i = 0; i < cards; i++) {
            x.put(10 * i);
        }
        return x;
    }
}
