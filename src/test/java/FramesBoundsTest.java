/** The sentences of 'FRAMES' and of the promises 12 and 13 that name a boundary case. */
public final class FramesBoundsTest {
    private static final int LEAST = Integer.MIN_VALUE;
    private static final int MOST = Integer.MAX_VALUE;
    private static final int[] NO_SLOTS = {LEAST, -64, -1, 0, 65, 66, 128, MOST};
    private static final int[] STARTS = {0, 1, 2, 65535, 65536, 1073741823, 1073741824, 2147418112, 2147483646, MOST};

    public static void main(String[] args) {
        slots();
        draws();
        sleepersDrawNone();
        slotsOneByOne();
        stillInThePocket();
        times();
        toldByFrames();
        roundsRange();
        noClash();
        mostFrames();
        nAgain();
        twiceTheClashes();
        byParts();
        ofTheLatestFrame();
        sizeBounds();
        roundsOfNoCards();
        Checks.end("FramesBoundsTest");
    }

    private static void slots() {
        Checks.sentence("Promise 12, slots: 1 to 64");
        for (int slots = 1; slots <= 64; slots++) {
            PocketCards x = Checks.pocketOf(5);
            Checks.due("frame(" + slots + ")", x.frame(slots), 1);
            Checks.dueTotals("frame(" + slots + ")", x, 4, 0, slots, slots - 1, 1, 0, 4 + slots - 1 + 9, 1);
        }
        for (int slots : NO_SLOTS) {
            Twins.unchanged("frame(" + slots + ")", Pockets::mixed, x -> x.frame(slots), -2);
            Twins.unchanged("frame(" + slots + ") of nobody", Pockets::fresh, x -> x.frame(slots), -2);
        }
    }

    /** The slot is told by how long a card must stay: one that leaves behind as many asks is gone before it. */
    private static void draws() {
        for (int start : STARTS) {
            for (int slots : new int[] {1, 2, 3, 10, 63, 64}) {
                Checks.sentence("FRAMES: x becomes (x * 1103515245 + 12345) modulo 2147483648");
                Lot lot = new Lot(start);
                int slot = lot.draw(slots);
                String frame = "frame(" + slots + ") from " + start;
                PocketCards x = leavingBehind(slot + 1, start);
                Checks.due(frame + ": in its slot", x.frame(slots), 1);
                Checks.due(frame + ": x", x.total(13), lot.x());
                Checks.sentence("FRAMES: the number is x / 65536 modulo m");
                if (slot > 0) {
                    Checks.due(frame + ": ahead of its slot", leavingBehind(slot, start).frame(slots), 0);
                }
            }
        }
        Checks.sentence("FRAMES: each card, by rising names, draws a number");
        Lot lot = new Lot(1);
        PocketCards x = Checks.pocketOf(255, 128, 3, 0);
        int[] names = {0, 3, 128, 255};
        int[] slotOf = new int[4];
        for (int i = 0; i < 4; i++) {
            slotOf[i] = lot.draw(64);
        }
        Checks.due("frame(64) of four", x.frame(64), 4);
        for (int i = 0; i < 3; i++) {
            int first = slotOfName(x.told(i), names, slotOf);
            int second = slotOfName(x.told(i + 1), names, slotOf);
            Checks.due("told by rising slots: " + i, first < second ? 1 : 0, 1);
        }
        Checks.due("x behind four", x.total(13), lot.x());
    }

    private static PocketCards leavingBehind(int asks, int start) {
        PocketCards x = Checks.pocketOf(5);
        x.leave(5, asks);
        x.shuffle(start);
        return x;
    }

    private static int slotOfName(int name, int[] names, int[] slots) {
        for (int i = 0; i < names.length; i++) {
            if (names[i] == name) {
                return slots[i];
            }
        }
        return -1;
    }

    private static void sleepersDrawNone() {
        Checks.sentence("FRAMES: each card that is awake draws");
        for (int asleep = 0; asleep <= 20; asleep++) {
            PocketCards x = Pockets.ofSize(20);
            for (int i = 0; i < asleep; i++) {
                x.sleep(10 * i);
            }
            Lot lot = new Lot(1);
            for (int i = asleep; i < 20; i++) {
                lot.draw(9);
            }
            x.frame(9);
            Checks.due("x of " + (20 - asleep) + " awake", x.total(13), lot.x());
        }
        PocketCards y = Checks.pocketOf(1, 2);
        y.leave(1, 1);
        y.frame(64);
        Lot lot = new Lot(1);
        lot.draw(64);
        lot.draw(64);
        Checks.due("a card that leaves ahead of its slot has drawn", y.total(13), lot.x());
        Checks.due("nobody draws in an empty pocket", drawnByNobody(), 1);
    }

    private static int drawnByNobody() {
        PocketCards x = new PocketCards();
        x.frame(64);
        x.rounds(64);
        return x.total(13);
    }

    private static void slotsOneByOne() {
        Checks.sentence("FRAMES: the slots come one after the other, from 0 on");
        // From 1 the cards 10 and 20 draw 6 and 62 below 64, and 16838 and 5758 are both even.
        PocketCards x = Checks.pocketOf(10, 20);
        x.leave(10, 7);
        x.leave(20, 63);
        Checks.due("each leaves behind its slot", x.frame(64), 2);
        Checks.due("both left", x.total(14), 2);
        Checks.sentence("FRAMES: the answer is a silence, a name or a clash as for an ask");
        PocketCards y = Checks.pocketOf(10, 20);
        Checks.due("a clash", y.frame(2), 0);
        Checks.dueTotals("a clash and a silence", y, 4, 0, 2, 1, 0, 1, 4 + 9 + 1, 1);
        Checks.due("both awake", y.total(1), 2);
        Checks.due("slots are no asks", y.total(4), 0);
        PocketCards z = Pockets.ofSize(20);
        Checks.due("twenty in one slot", z.frame(1), 0);
        Checks.dueTotals("one clash", z, 4, 0, 1, 0, 0, 1, 4 + 9, 1);
    }

    private static void stillInThePocket() {
        Checks.sentence("FRAMES: the cards of the slot that are in the pocket still answer");
        // Both are in the slot 6 of 8: 16838 % 8 and 5758 % 8.
        int[] told = {1, 0, 0};
        int[] clashes = {0, 1, 1};
        for (int i = 0; i < 3; i++) {
            PocketCards x = Checks.pocketOf(10, 20);
            x.leave(20, 6 + i);
            Checks.due("frame with " + (6 + i) + " to go", x.frame(8), told[i]);
            Checks.due("its clashes", x.total(8), clashes[i]);
            Checks.due("left", x.total(14), 1);
        }
        Checks.sentence("FRAMES: behind each slot a card has one ask less to go");
        PocketCards y = Checks.pocketOf(10);
        y.sleep(10);
        y.leave(10, 65);
        y.frame(64);
        Checks.due("one to go", y.ofCard(10, 1), 1);
        y.frame(1);
        Checks.due("none left", y.total(0), 0);
        PocketCards z = Checks.pocketOf(10);
        z.leave(10, 4);
        z.set(0, 0);
        z.ask(0, 0);
        z.frame(2);
        Checks.due("asks and slots together", z.ofCard(10, 1), 1);
        z.ask(0, 0);
        Checks.due("left by both", z.total(14), 1);
    }

    private static void times() {
        Checks.sentence("FRAMES: a slot takes 1 unit of time if it is a silence, 9 otherwise; a frame takes 4 units more");
        for (int cards = 0; cards <= 20; cards++) {
            PocketCards x = Pockets.ofSize(cards);
            x.frame(10);
            int silences = x.total(6);
            Checks.due("slots", x.total(6) + x.total(7) + x.total(8), 10);
            Checks.due("clashes", x.total(8), new Lot(1).clashes(cards, 10));
            Checks.due("time of " + cards, x.total(9), 4 + silences + 9 * (10 - silences));
        }
        PocketCards one = Checks.pocketOf(3);
        one.frame(1);
        Checks.due("a name", one.total(9), 4 + 9);
        one.frame(1);
        Checks.due("a silence", one.total(9), 4 + 9 + 4 + 1);
        one.frame(64);
        Checks.due("64 silences", one.total(9), 4 + 9 + 4 + 1 + 4 + 64);
    }

    private static void toldByFrames() {
        Checks.sentence("Promise 12: returns how many cards are told by it");
        PocketCards x = Checks.pocketOf(10, 20);
        Checks.due("none: both in a slot", x.frame(1), 0);
        Checks.due("the next one starts from the x behind it", x.frame(2), 0);
        Checks.due("both", x.frame(64), 2);
        Checks.due("none is awake", x.frame(64), 0);
        Checks.due("frames", x.total(10), 4);
        Checks.due("each told once", x.ofCard(10, 2) * 10 + x.ofCard(20, 2), 11);
        PocketCards y = Checks.pocketOf(10);
        y.set(0, 0);
        for (int i = 1; i <= 3; i++) {
            Checks.due("again, as it stays awake", y.frame(3), 1);
            Checks.due("tellings", y.ofCard(10, 2), i);
        }
        PocketCards z = Pockets.ofSize(20);
        int start = Lot.from(12, new int[] {64}, new int[] {0});
        Checks.due("an x with no clash is found", start >= 0 ? 1 : 0, 1);
        for (int i = 12; i < 20; i++) {
            z.take(10 * i);
        }
        z.shuffle(start);
        Checks.due("all of twelve", z.frame(64), 12);
    }

    private static void roundsRange() {
        Checks.sentence("Promise 13, slots: 1 to 64: of the first frame");
        for (int slots = 1; slots <= 64; slots++) {
            PocketCards x = Checks.pocketOf(5);
            Checks.due("rounds(" + slots + ")", x.rounds(slots), 1);
            Checks.dueTotals("rounds(" + slots + ")", x, 4, 0, slots, slots - 1, 1, 0, 4 + slots - 1 + 9, 1);
            Checks.due("one change", x.undo(), 1);
        }
        for (int slots : NO_SLOTS) {
            Twins.unchanged("rounds(" + slots + ")", Pockets::mixed, x -> x.rounds(slots), -2);
            Twins.unchanged("rounds(" + slots + ") of nobody", Pockets::fresh, x -> x.rounds(slots), -2);
        }
    }

    private static void noClash() {
        Checks.sentence("FRAMES: as long as there was a clash in the latest frame");
        for (int sizes = 0; sizes <= 2; sizes++) {
            PocketCards x = Checks.pocketOf(10, 20);
            x.set(1, sizes);
            // 16838 % 3 = 2 and 5758 % 3 = 1.
            Checks.due("no clash, sizes " + sizes, x.rounds(3), 1);
            PocketCards y = Checks.pocketOf(10);
            y.set(1, sizes);
            y.set(0, 0);
            Checks.due("a name is no clash, sizes " + sizes, y.rounds(1), 1);
            PocketCards z = Checks.pocketOf(10, 20);
            z.set(1, sizes);
            z.leave(10, 1);
            z.leave(20, 1);
            Checks.due("a clash, then a silence, sizes " + sizes, z.rounds(1), 2);
            Checks.due("told", z.total(7), 0);
        }
    }

    /** Two in the one slot clash until one of them leaves. */
    private static void mostFrames() {
        Checks.sentence("FRAMES: and there were fewer than 40 frames");
        int[] stay = {1, 37, 38, 39, 40, 41, 200};
        int[] frames = {2, 38, 39, 40, 40, 40, 40};
        int[] told = {1, 1, 1, 1, 0, 0, 0};
        for (int i = 0; i < stay.length; i++) {
            PocketCards x = Checks.pocketOf(10, 20);
            x.leave(20, stay[i]);
            String rounds = "rounds(1) with " + stay[i] + " to go";
            Checks.due(rounds + ": roundsTake 0", x.roundsTake(1, 0), frames[i]);
            Checks.due(rounds + ": roundsTake 2", x.roundsTake(1, 2), told[i]);
            Checks.due(rounds, x.rounds(1), frames[i]);
            Checks.due(rounds + ": frames", x.total(10), frames[i]);
            Checks.due(rounds + ": told", x.total(7), told[i]);
            Checks.due(rounds + ": clashes", x.total(8), frames[i] - told[i]);
            Checks.due(rounds + ": left", x.total(14), stay[i] <= 40 ? 1 : 0);
        }
        Checks.sentence("FRAMES: fewer than 40 frames, of these rounds alone");
        PocketCards x = Checks.pocketOf(10, 20);
        for (int i = 1; i <= 3; i++) {
            Checks.due("rounds(1) again", x.rounds(1), 40);
            Checks.due("frames so far", x.total(10), 40 * i);
        }
        PocketCards y = Checks.pocketOf(10, 20, 30);
        y.set(0, 0);
        y.set(1, 1);
        // Three in two slots always clash, in one slot or the other.
        Checks.due("rounds(2) of three", y.rounds(2), 40);
        Checks.due("slots", y.total(5), 80);
    }

    private static void nAgain() {
        Checks.sentence("FRAMES, sizes 0: n again");
        for (int slots : new int[] {1, 2, 5, 63, 64}) {
            dueNext(0, slots, 1, slots);
        }
        dueNext(0, 8, 3, 8);
        // The third one is n again too, whatever the second one was like.
        PocketCards x = Checks.pocketOf(10, 20, 30);
        x.set(0, 0);
        Checks.due("rounds(2) of three", x.rounds(2), 40);
        Checks.due("slots", x.total(5), 80);
        PocketCards y = Pockets.ofSize(20);
        int frames = y.rounds(64);
        Checks.due("rounds(64): slots", y.total(5), 64 * frames);
        Checks.due("rounds(64): all are told", y.total(7), 20);
    }

    private static void twiceTheClashes() {
        Checks.sentence("FRAMES, sizes 1: twice the clashes of the latest frame");
        for (int slots : new int[] {1, 2, 3, 16, 63, 64}) {
            dueNext(1, slots, 1, 2);
        }
        dueNext(1, 2, 2, 4);
        dueNext(1, 12, 3, 6);
        dueNext(1, 16, 5, 10);
        dueNext(1, 16, 7, 14);
        dueNext(1, 16, 9, 18);
        dueNext(1, 19, 10, 20);
        // The clashes of the latest frame, not those of all: 1, 2 (both 1), 2 (both 1), 2 (0 and 1).
        PocketCards x = Checks.pocketOf(10, 20);
        x.set(1, 1);
        x.ask(0, 0);
        Checks.due("rounds(1)", x.rounds(1), 4);
        Checks.due("slots", x.total(5), 7);
    }

    private static void byParts() {
        Checks.sentence("FRAMES, sizes 2: twice the size if more than half of its slots clashed");
        int[][] twice = {{1, 1}, {2, 2}, {3, 2}, {3, 3}, {4, 3}, {5, 3}, {6, 4}, {7, 4}, {8, 5}, {9, 5}, {12, 7},
            {15, 8}, {16, 9}, {19, 10}};
        for (int[] row : twice) {
            dueNext(2, row[0], row[1], 2 * row[0]);
        }
        Checks.sentence("FRAMES, sizes 2: otherwise half of it (rounded down) if at most a quarter of them clashed");
        int[][] half = {{4, 1, 2}, {5, 1, 2}, {6, 1, 3}, {7, 1, 3}, {8, 1, 4}, {8, 2, 4}, {9, 2, 4}, {11, 2, 5},
            {12, 3, 6}, {13, 3, 6}, {15, 3, 7}, {16, 4, 8}, {17, 4, 8}, {20, 5, 10}, {63, 1, 31}, {64, 1, 32}};
        for (int[] row : half) {
            dueNext(2, row[0], row[1], row[2]);
        }
        Checks.sentence("FRAMES, sizes 2: otherwise its size");
        int[][] same = {{2, 1}, {3, 1}, {4, 2}, {5, 2}, {6, 2}, {6, 3}, {7, 2}, {7, 3}, {8, 3}, {8, 4}, {9, 3},
            {9, 4}, {10, 3}, {10, 5}, {11, 3}, {12, 4}, {12, 6}, {16, 5}, {16, 8}, {20, 6}};
        for (int[] row : same) {
            dueNext(2, row[0], row[1], row[0]);
        }
    }

    private static void ofTheLatestFrame() {
        Checks.sentence("FRAMES, sizes 0: n again, whatever the latest frame was like");
        dueSizes(0, new int[] {8, 8, 8, 8}, 1, 2, 3);
        dueSizes(0, new int[] {2, 2, 2}, 2, 1);
        Checks.sentence("FRAMES, sizes 1: the clashes of the latest frame, not of all");
        dueSizes(1, new int[] {16, 6, 4, 2, 2}, 3, 2, 1, 1);
        dueSizes(1, new int[] {16, 2, 4, 6}, 1, 2, 3);
        Checks.sentence("FRAMES, sizes 2: of the latest frame, not of the first");
        dueSizes(2, new int[] {8, 4, 2, 2, 2}, 2, 1, 1, 1);
        dueSizes(2, new int[] {1, 2, 4, 4, 2}, 1, 2, 2, 1);
        dueSizes(2, new int[] {9, 4, 2, 4, 8}, 2, 1, 2, 3);
        dueSizes(2, new int[] {3, 6, 3, 3}, 2, 1, 1);
        dueSizes(2, new int[] {64, 32, 16, 8}, 1, 1, 1);
        dueSizes(2, new int[] {63, 31, 15, 7, 3, 3}, 1, 1, 1, 1, 1);
    }

    /** Twenty cards clash in ten slots at most, so that no rule leads out of these bounds but for the first size. */
    private static void sizeBounds() {
        Checks.sentence("FRAMES: a size is at least 1 and at most 64");
        int[][] fromOne = {{0, 1}, {1, 2}, {2, 2}};
        for (int[] row : fromOne) {
            dueSizes(row[0], new int[] {1, row[1]}, 1);
        }
        int[][] fromMost = {{0, 64}, {1, 2}, {2, 32}};
        for (int[] row : fromMost) {
            dueSizes(row[0], new int[] {64, row[1]}, 1);
        }
        dueSizes(0, new int[] {1, 1, 1, 1}, 1, 1, 1);
        dueSizes(0, new int[] {64, 64, 64}, 1, 1);
        dueSizes(1, new int[] {19, 20}, 10);
        dueSizes(2, new int[] {19, 38}, 10);
    }

    private static void dueNext(int sizes, int size, int clashes, int next) {
        dueSizes(sizes, new int[] {size, next}, clashes);
    }

    /**
     * The sizes of frames with so many clashes, and of one more. All cards stay awake, and leave behind the
     * last slot of the last frame but one, so that the last one is all silent.
     */
    private static void dueSizes(int sizes, int[] slots, int... clashes) {
        int all = 0;
        int clashesOfAll = 0;
        int mostClashes = 1;
        for (int i = 0; i < clashes.length; i++) {
            all += slots[i];
            clashesOfAll += clashes[i];
            mostClashes = Math.max(mostClashes, clashes[i]);
        }
        int cards = 2 * mostClashes;
        int start = Lot.from(cards, slots, clashes);
        while (start < 0 && cards < 20) {
            cards++;
            start = Lot.from(cards, slots, clashes);
        }
        String rounds = "sizes " + sizes + ", rounds(" + slots[0] + ") with " + clashesOfAll + " clashes";
        Checks.due(rounds + ": an x is found", start >= 0 ? 1 : 0, 1);
        PocketCards x = Pockets.ofSize(cards);
        x.set(0, 0);
        x.set(1, sizes);
        x.shuffle(start);
        for (int i = 0; i < cards; i++) {
            x.leave(10 * i, all);
        }
        int next = slots[clashes.length];
        Checks.due(rounds + ": would clash", x.roundsTake(slots[0], 3), clashesOfAll);
        Checks.due(rounds + ": slots it would take", x.roundsTake(slots[0], 4), all + next);
        Checks.due(rounds, x.rounds(slots[0]), slots.length);
        Checks.due(rounds + ": clashes", x.total(8), clashesOfAll);
        Checks.due(rounds + ": slots", x.total(5), all + next);
        Checks.due(rounds + ": left", x.total(14), cards);
    }

    private static void roundsOfNoCards() {
        Checks.sentence("FRAMES: rounds begin with a frame of n slots");
        PocketCards x = new PocketCards();
        Checks.due("rounds(1) of nobody", x.rounds(1), 1);
        Checks.due("rounds(64) of nobody", x.rounds(64), 1);
        Checks.dueTotals("nobody", x, 4, 0, 65, 65, 0, 0, 4 + 1 + 4 + 64, 2);
        Checks.due("they are changes", x.total(15), 2);
        PocketCards y = Pockets.ofSize(20);
        for (int i = 0; i < 20; i++) {
            y.sleep(10 * i);
        }
        Checks.due("rounds(64) of sleepers", y.rounds(64), 1);
    }
}
