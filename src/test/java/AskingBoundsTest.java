/** The sentences of 'ASKS' and 'WALKS' and of the promises 10 and 11 that name a boundary case. */
public final class AskingBoundsTest {
    private static final int LEAST = Integer.MIN_VALUE;
    private static final int MOST = Integer.MAX_VALUE;
    private static final int[] NO_LENGTHS = {LEAST, -32, -1, 9, 10, 31, 32, 33, 40, MOST};

    public static void main(String[] args) {
        lengths();
        bits();
        whoAnswers();
        answers();
        clashBits();
        times();
        told();
        putToSleep();
        leaving();
        plainWalks();
        skippingWalks();
        walksOfManyCards();
        walksOfNobody();
        leavingInWalks();
        notToldTwice();
        Checks.end("AskingBoundsTest");
    }

    private static void lengths() {
        Checks.sentence("Promise 10, length: 0 to 8");
        for (int length = 0; length <= 8; length++) {
            Checks.due("ask(" + length + ", 0)", Checks.pocketOf(0).ask(length, 0), 0);
        }
        for (int length : NO_LENGTHS) {
            Twins.unchanged("ask(" + length + ", 0)", Pockets::mixed, x -> x.ask(length, 0), -2);
        }
    }

    private static void bits() {
        Checks.sentence("Promise 10, bits: 0 to 2 to the power of the length, less 1");
        for (int length = 0; length <= 8; length++) {
            int of = length;
            int most = (1 << length) - 1;
            Checks.due("ask(" + length + ", " + most + ")", Checks.pocketOf(255).ask(length, most), 255);
            for (int bits : new int[] {LEAST, -1, most + 1, most + 2, 256 + most, MOST}) {
                Twins.unchanged("ask(" + length + ", " + bits + ")", Pockets::mixed, x -> x.ask(of, bits), -2);
            }
        }
        Checks.sentence("Promise 10, bits: its first bit is worth the most");
        PocketCards x = Checks.pocketOf(128 + 64, 16);
        Checks.due("ask(4, 12)", x.ask(4, 12), 192);
        Checks.due("ask(4, 1)", x.ask(4, 1), 16);
    }

    private static void whoAnswers() {
        Checks.sentence("ASKS: a card has this beginning if its first bits are these; each has that of the length 0");
        for (int name = 0; name <= 255; name++) {
            PocketCards x = Checks.pocketOf(name);
            x.set(0, 0);
            for (int length = 0; length <= 8; length++) {
                int beginning = name >> (8 - length);
                Checks.due("ask(" + length + ", " + beginning + ")", x.ask(length, beginning), name);
                if (length > 0) {
                    int other = beginning ^ 1;
                    Checks.due("ask(" + length + ", " + other + ") of " + name, x.ask(length, other), 300);
                    other = beginning ^ (1 << (length - 1));
                    Checks.due("ask(" + length + ", " + other + ") of " + name, x.ask(length, other), 300);
                }
            }
        }
        Checks.sentence("ASKS: all cards that are awake answer");
        PocketCards x = Checks.pocketOf(0, 1, 2);
        x.sleep(1);
        Checks.due("one sleeps: ask(0, 0)", x.ask(0, 0), 406);
        Checks.due("one sleeps: ask(8, 1)", x.ask(8, 1), 300);
        x.sleep(2);
        Checks.due("two sleep: ask(0, 0)", x.ask(0, 0), 0);
        Checks.due("three sleep: ask(0, 0)", x.ask(0, 0), 300);
        x.wakeAll();
        Checks.due("awake again: ask(0, 0)", x.ask(0, 0), 406);
        Checks.due("awake again: ask(8, 1)", x.ask(8, 1), 1);
    }

    private static void answers() {
        Checks.sentence("Promise 10: returns the name, 300 if it is a silence, 400 plus the clash bit if it is a clash");
        PocketCards x = Pockets.ofSize(20);
        for (int asleep = 0; asleep < 19; asleep++) {
            Checks.due("ask(0, 0) of " + (20 - asleep), x.ask(0, 0) >= 400 ? 1 : 0, 1);
            x.sleep(10 * asleep);
        }
        Checks.due("ask(0, 0) of one", x.ask(0, 0), 190);
        Checks.due("ask(0, 0) of none", x.ask(0, 0), 300);
        Checks.due("silences", x.total(6), 1);
        Checks.due("names", x.total(7), 1);
        Checks.due("clashes", x.total(8), 19);
        Checks.due("asks", x.total(4), 21);
        Checks.due("slots are none", x.total(5), 0);
        Checks.due("the name 0", Checks.pocketOf(0).ask(0, 0), 0);
        Checks.due("the name 255", Checks.pocketOf(255).ask(0, 0), 255);
    }

    private static void clashBits() {
        Checks.sentence("ASKS: the clash bit; it is at least the length");
        for (int length = 0; length <= 7; length++) {
            for (int bit = length; bit <= 7; bit++) {
                PocketCards x = Checks.pocketOf(255, 255 ^ (128 >> bit));
                Checks.due("ask(" + length + ", ..)", x.ask(length, (1 << length) - 1), 400 + bit);
                Checks.due("nobody is told", x.total(3), 0);
                Checks.due("both stay awake", x.total(1), 2);
            }
        }
        Checks.sentence("ASKS: the first bit in which they are not all alike");
        Checks.due("the last one differs first", Checks.pocketOf(0, 1, 2, 64).ask(0, 0), 401);
        Checks.due("the first one differs first", Checks.pocketOf(63, 128, 129, 130).ask(0, 0), 400);
        Checks.due("two differ late, two early", Checks.pocketOf(4, 5, 12, 13).ask(0, 0), 404);
        Checks.due("those with the beginning alone", Checks.pocketOf(4, 5, 140).ask(1, 0), 407);
        PocketCards x = Checks.pocketOf(4, 5, 140);
        x.sleep(140);
        Checks.due("those awake alone", x.ask(0, 0), 407);
    }

    private static void times() {
        for (int length = 0; length <= 8; length++) {
            Checks.sentence("ASKS: 4 units and 1 for each bit; a silence takes 2 more");
            PocketCards silent = Checks.pocketOf(255);
            if (length == 0) {
                silent.sleep(255);
            }
            Checks.due("silence of the length " + length, silent.ask(length, 0), 300);
            Checks.due("its time", silent.total(9), 4 + length + 2);
            Checks.sentence("ASKS: a name or a clash (8 less the length) more, but at least 1 more");
            int more = length < 8 ? 8 - length : 1;
            PocketCards named = Checks.pocketOf(255);
            Checks.due("name of the length " + length, named.ask(length, (1 << length) - 1), 255);
            Checks.due("its time", named.total(9), 4 + length + more);
            PocketCards both = Checks.pocketOf(254, 255);
            if (length < 8) {
                Checks.due("clash of the length " + length, both.ask(length, (1 << length) - 1), 407);
                Checks.due("its time", both.total(9), 4 + length + more);
            }
        }
    }

    private static void told() {
        Checks.sentence("ASKS: the list has the latest 200 of them at most");
        PocketCards x = Pockets.ofSize(19);
        x.set(0, 0);
        for (int walks = 1; walks <= 10; walks++) {
            x.walk(true);
        }
        Checks.due("190 names", x.total(3), 190);
        Checks.due("told(189)", x.told(189), 180);
        Checks.due("told(190)", x.told(190), -5);
        for (int i = 0; i < 10; i++) {
            x.ask(8, 10 * i);
        }
        Checks.due("200 names", x.total(3), 200);
        Checks.due("none is dropped", x.told(0) * 1000 + x.told(1), 10);
        Checks.due("told(199)", x.told(199), 90);
        Checks.due("told(200)", x.told(200), -5);
        x.ask(8, 100);
        Checks.due("201 names", x.total(3), 200);
        Checks.due("the first one is dropped", x.told(0), 10);
        Checks.due("told(198)", x.told(198), 90);
        Checks.due("told(199)", x.told(199), 100);
        Checks.due("told(200)", x.told(200), -5);
        x.walk(false);
        Checks.due("220 names", x.total(3), 200);
        Checks.due("twenty are dropped", x.told(0), 10);
        Checks.due("told(180)", x.told(180), 100);
        for (int i = 0; i < 19; i++) {
            Checks.due("told(" + (181 + i) + ")", x.told(181 + i), 10 * i);
        }
        Checks.due("all are counted", x.total(7), 220);
        x.undo();
        x.undo();
        Checks.due("undone: 200 names again", x.total(3), 200);
        Checks.due("undone: the first one is back", x.told(0) * 1000 + x.told(1), 10);
        Checks.sentence("ASKS: the name is put at the end of the list");
        PocketCards y = Checks.pocketOf(9, 3, 200);
        y.ask(8, 200);
        y.ask(8, 3);
        y.ask(8, 9);
        Checks.dueTold("in this order", y, 200, 3, 9);
    }

    private static void putToSleep() {
        Checks.sentence("ASKS: and the card is put to sleep, unless the setting 0 is 0");
        PocketCards x = Checks.pocketOf(8);
        x.set(0, 0);
        Checks.due("setting 0", x.ask(0, 0) * 10 + x.ofCard(8, 0), 81);
        x.set(0, 1);
        Checks.due("setting 1", x.ask(0, 0) * 10 + x.ofCard(8, 0), 80);
        Checks.due("tellings", x.ofCard(8, 2), 2);
        x.set(0, 0);
        Checks.due("it stays asleep", x.ofCard(8, 0), 0);
        Checks.due("and silent", x.ask(0, 0), 300);
        Checks.due("a clash puts nobody to sleep", Checks.pocketOf(1, 2).ask(0, 0), 406);
    }

    private static void leaving() {
        Checks.sentence("ASKS: each card that is going to leave has one ask less to go; those that have none are taken out");
        for (int asks : new int[] {1, 2, 199, 200}) {
            PocketCards x = Checks.pocketOf(40, 50, 60);
            x.leave(50, asks);
            for (int i = 1; i < asks; i++) {
                x.ask(8, 0);
            }
            Checks.due("one to go of " + asks, x.ofCard(50, 1), 1);
            Checks.due("none left yet", x.total(14), 0);
            Checks.due("it answers the last ask too", x.ask(8, 50), 50);
            Checks.dueCards("behind " + asks, x, 40, 60);
            Checks.due("one left", x.total(14), 1);
            Checks.due("no card is going to", x.total(2), 0);
        }
        Checks.sentence("ASKS: asleep or awake");
        PocketCards x = Checks.pocketOf(1, 2, 3);
        x.sleep(1);
        x.leave(1, 1);
        x.leave(3, 2);
        x.ask(8, 3);
        Checks.dueCards("the sleeper left", x, 2, 3);
        Checks.due("the one that was told goes on", x.ofCard(3, 1), 1);
        x.ask(8, 0);
        Checks.dueCards("both left", x, 2);
        Checks.sentence("ASKS: an ask that is refused is none");
        PocketCards y = Checks.pocketOf(1);
        y.leave(1, 1);
        Checks.due("ask(9, 0)", y.ask(9, 0), -2);
        Checks.due("frame(0)", y.frame(0), -2);
        Checks.due("rounds(65)", y.rounds(65), -2);
        Checks.due("still one to go", y.ofCard(1, 1), 1);
        Checks.sentence("ASKS: behind each ask, whatever the answer is");
        int[][] asks = {{8, 0}, {8, 16}, {0, 0}};
        int[] answers = {300, 16, 407};
        for (int i = 0; i < asks.length; i++) {
            PocketCards z = Checks.pocketOf(16, 17);
            z.leave(17, 2);
            Checks.due("ask", z.ask(asks[i][0], asks[i][1]), answers[i]);
            Checks.due("asks to go behind " + answers[i], z.ofCard(17, 1), 1);
        }
    }

    /** Two cards that differ first at a bit: a clash of each length up to it, and a silence beside each but the last. */
    private static void plainWalks() {
        Checks.sentence("WALKS: if the answer is a clash, the beginning that is longer by the bit 0, then by the bit 1");
        for (int bit = 0; bit <= 7; bit++) {
            int silences = 0;
            for (int length = 1; length <= bit; length++) {
                silences += 6 + length;
            }
            int nameTime = bit < 7 ? 12 : 13;
            int[] pair = {0, 128 >> bit};
            dueWalk(pair, false, 2 * bit + 3, 12 * (bit + 1) + silences + 2 * nameTime, bit + 1, bit + 1);
            int[] highPair = {255 ^ (128 >> bit), 255};
            dueWalk(highPair, false, 2 * bit + 3, 12 * (bit + 1) + silences + 2 * nameTime, bit + 1, bit + 1);
        }
    }

    private static void skippingWalks() {
        Checks.sentence("WALKS: made longer first by the bits up to the clash bit, then by the bit 0, then by the bit 1");
        for (int bit = 0; bit <= 7; bit++) {
            int nameTime = bit < 7 ? 12 : 13;
            dueWalk(new int[] {0, 128 >> bit}, true, 3, 12 + 2 * nameTime, 1, bit + 1);
            dueWalk(new int[] {255 ^ (128 >> bit), 255}, true, 3, 12 + 2 * nameTime, 1, bit + 1);
        }
    }

    /** A walk of two cards, both as it would be and as it is. */
    private static void dueWalk(int[] pair, boolean skips, int asks, int time, int clashes, int longest) {
        PocketCards x = Checks.pocketOf(pair);
        String walk = (skips ? "skipping" : "plain") + " walk of " + pair[0] + " and " + pair[1];
        Checks.due(walk + ": asks", x.walkTakes(skips, 0), asks);
        Checks.due(walk + ": time", x.walkTakes(skips, 1), time);
        Checks.due(walk + ": cards", x.walkTakes(skips, 2), 2);
        Checks.due(walk + ": clashes", x.walkTakes(skips, 3), clashes);
        Checks.due(walk + ": greatest length", x.walkTakes(skips, 4), longest);
        Checks.due(walk, x.walk(skips), 2);
        Checks.dueTotals(walk, x, 4, asks, 0, asks - clashes - 2, 2, clashes, time);
        Checks.dueTold(walk, x, pair[0], pair[1]);
        Checks.due(walk + ": one change", x.undo(), 2);
        Checks.due(walk + ": undone", x.total(1), 2);
    }

    private static void walksOfManyCards() {
        Checks.sentence("Promise 11: returns how many cards are told by it");
        for (int cards = 0; cards <= 20; cards++) {
            for (boolean skips : new boolean[] {false, true}) {
                PocketCards x = Pockets.ofSize(cards);
                Checks.due("walk(" + skips + ") of " + cards, x.walk(skips), cards);
                for (int i = 0; i < cards; i++) {
                    Checks.due("told(" + i + ")", x.told(i), 10 * i);
                }
                Checks.due("told(" + cards + ")", x.told(cards), -5);
                Checks.due("awake", x.total(1), 0);
                Checks.due("walk again", x.walk(skips), 0);
            }
            // A skipping walk has no silence as long as no card leaves: each clash splits those that answer.
            PocketCards y = Pockets.ofSize(cards);
            y.walk(true);
            Checks.due("asks of " + cards, y.total(4), cards == 0 ? 1 : 2 * cards - 1);
        }
        Checks.sentence("WALKS: in a walk a beginning of the length 8 cannot clash");
        for (boolean skips : new boolean[] {false, true}) {
            PocketCards x = new PocketCards();
            for (int name = 236; name <= 255; name++) {
                x.put(name);
            }
            Checks.due("greatest length", x.walkTakes(skips, 4), 8);
            Checks.due("walk", x.walk(skips), 20);
        }
    }

    private static void walksOfNobody() {
        Checks.sentence("WALKS: asks for a beginning (that of the length 0 first)");
        for (boolean skips : new boolean[] {false, true}) {
            PocketCards x = new PocketCards();
            Checks.due("walk of an empty pocket", x.walk(skips), 0);
            Checks.dueTotals("empty", x, 4, 1, 0, 1, 0, 0, 6);
            Checks.due("it is a change", x.total(15), 1);
            PocketCards y = Checks.pocketOf(9);
            y.sleep(9);
            Checks.due("walk of a sleeper", y.walk(skips), 0);
            Checks.dueTotals("asleep", y, 4, 1, 0, 1, 0, 0, 6);
            PocketCards z = Checks.pocketOf(9, 10);
            z.sleep(9);
            Checks.due("walk of one awake", z.walk(skips), 1);
            Checks.dueTotals("one", z, 4, 1, 0, 0, 1, 0, 12);
        }
    }

    private static void leavingInWalks() {
        Checks.sentence("WALKS: a clash is followed up though those that clashed have left");
        for (boolean skips : new boolean[] {false, true}) {
            PocketCards x = Checks.pocketOf(64, 65);
            x.leave(64, 1);
            x.leave(65, 1);
            Checks.due("walk", x.walk(skips), 0);
            int length = skips ? 8 : 1;
            Checks.dueTotals("both left", x, 4, 3, 0, 2, 0, 1, 12 + 2 * (6 + length));
            Checks.due("left", x.total(14), 2);
            Checks.due("no cards", x.total(0), 0);
        }
        Checks.sentence("WALKS: behind each ask of it a card has one ask less to go");
        // A skipping walk asks "", 0 and 1: the card 128 answers the third one as long as it has two to go behind "".
        for (int to = 1; to <= 4; to++) {
            PocketCards x = Checks.pocketOf(0, 128);
            x.leave(128, to);
            Checks.due("walk with " + to + " to go", x.walk(true), to < 3 ? 1 : 2);
            Checks.due("left with " + to + " to go", x.total(14), to <= 3 ? 1 : 0);
            Checks.due("to go of " + to, x.ofCard(128, 1), to <= 3 ? -1 : 1);
        }
        Checks.sentence("WALKS: the bits up to the clash bit, which all that answered have alike");
        // 160 and 161 clash at the bit 7 below 1; the card 160 leaves behind this ask.
        PocketCards x = Checks.pocketOf(0, 160, 161);
        x.leave(160, 3);
        Checks.due("walk", x.walk(true), 2);
        Checks.dueTold("stem of those that answered", x, 0, 161);
        Checks.dueTotals("stem", x, 4, 5, 0, 1, 2, 2, 12 + 12 + 12 + 14 + 13);
    }

    private static void notToldTwice() {
        Checks.sentence("WALKS: a card that is told and stays awake is not told twice in a walk");
        for (boolean skips : new boolean[] {false, true}) {
            PocketCards x = Pockets.ofSize(20);
            x.set(0, 0);
            Checks.due("walk", x.walk(skips), 20);
            for (int i = 0; i < 20; i++) {
                Checks.due("tellings", x.ofCard(10 * i, 2), 1);
                Checks.due("awake", x.ofCard(10 * i, 0), 1);
            }
            Checks.due("walk again", x.walk(skips), 20);
            Checks.due("names", x.total(3), 40);
        }
    }
}
