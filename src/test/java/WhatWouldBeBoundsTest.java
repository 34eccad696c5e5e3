/** The sentences of the promises 25 to 28 that name a boundary case. */
public final class WhatWouldBeBoundsTest {
    private static final int LEAST = Integer.MIN_VALUE;
    private static final int MOST = Integer.MAX_VALUE;
    private static final int[] NO_WHATS = {LEAST, -2, -1, 5, 6, 16, MOST};
    private static final int[] NO_SLOTS = {LEAST, -64, -1, 0, 65, 66, 128, MOST};

    public static void main(String[] args) {
        walkTakesRange();
        walkTakesLikeAWalk();
        walkTakesOfNobody();
        walkTakesOfThoseThatLeave();
        roundsTakeRange();
        roundsTakeLikeRounds();
        roundsTakeOfNobody();
        nothingChanges();
        bestFrameOfNobody();
        bestFrameByTheWords();
        bestFrameAsTheNextOne();
        bestFrameOfThoseThatLeave();
        thickestRange();
        thickestOfNobody();
        thickest();
        Checks.end("WhatWouldBeBoundsTest");
    }

    private static void walkTakesRange() {
        Checks.sentence("Promise 25: OUT_OF_RANGE");
        for (boolean skips : new boolean[] {false, true}) {
            for (int what : NO_WHATS) {
                Twins.unchanged("walkTakes(" + skips + ", " + what + ")", Pockets::mixed,
                    x -> x.walkTakes(skips, what), -2);
                Twins.unchanged("walkTakes(" + skips + ", " + what + ") of nobody", Pockets::fresh,
                    x -> x.walkTakes(skips, what), -2);
            }
        }
        Checks.sentence("Promise 25, what: 0 to 4");
        // 20 is 00010100 and 30 is 00011110: they differ first at the bit 4.
        int[] plain = {11, 5 * 12 + (7 + 8 + 9 + 10) + 2 * 12, 2, 5, 5};
        int[] skipping = {3, 3 * 12, 2, 1, 5};
        for (int what = 0; what <= 4; what++) {
            int of = what;
            Twins.unchanged("walkTakes(false, " + what + ")", Pockets::mixed, x -> x.walkTakes(false, of), plain[what]);
            Twins.unchanged("walkTakes(true, " + what + ")", Pockets::mixed, x -> x.walkTakes(true, of), skipping[what]);
        }
    }

    /** What a walk takes is what it has taken when it was made. */
    private static void walkTakesLikeAWalk() {
        Checks.sentence("Promise 25: 0 for the asks, 1 for the time, 2 for the cards, 3 for the clashes");
        int[] totals = {4, 9, 7, 8};
        for (int cards = 0; cards <= 20; cards++) {
            for (int kind = 0; kind < 4; kind++) {
                boolean skips = kind % 2 == 1;
                PocketCards x = Pockets.ofSize(cards);
                x.set(0, kind / 2);
                x.ask(0, 0);
                x.frame(16);
                int[] takes = new int[4];
                for (int what = 0; what < 4; what++) {
                    takes[what] = x.walkTakes(skips, what) + x.total(totals[what]);
                }
                int told = x.walkTakes(skips, 2);
                Checks.due("walk(" + skips + ") of " + cards, x.walk(skips), told);
                for (int what = 0; what < 4; what++) {
                    Checks.due("what " + what + " of " + cards, x.total(totals[what]), takes[what]);
                }
            }
        }
        Checks.sentence("Promise 25: 4 for the greatest length of a beginning that would be asked");
        int[][] names = {{}, {7}, {0, 128}, {0, 64}, {0, 1}, {254, 255}, {0, 1, 128}, {0, 128, 192}, {0, 32, 255}};
        int[] greatest = {0, 0, 1, 2, 8, 8, 8, 2, 3};
        for (int i = 0; i < names.length; i++) {
            for (boolean skips : new boolean[] {false, true}) {
                PocketCards x = Checks.pocketOf(names[i]);
                Checks.due("greatest length of " + i, x.walkTakes(skips, 4), greatest[i]);
            }
        }
        PocketCards x = Checks.pocketOf(0, 1, 2);
        Checks.due("of three", x.walkTakes(true, 4), 8);
        x.sleep(1);
        Checks.due("of two, less than before", x.walkTakes(true, 4), 7);
        x.sleep(2);
        Checks.due("of one, less again", x.walkTakes(true, 4), 0);
    }

    private static void walkTakesOfNobody() {
        Checks.sentence("Promise 25: a walk of nobody takes one ask");
        int[] takes = {1, 6, 0, 0, 0};
        for (boolean skips : new boolean[] {false, true}) {
            for (int what = 0; what <= 4; what++) {
                int of = what;
                Twins.unchanged("walkTakes(" + skips + ", " + what + ")", Pockets::fresh,
                    x -> x.walkTakes(skips, of), takes[what]);
                PocketCards y = Checks.pocketOf(3, 4);
                y.sleep(3);
                y.sleep(4);
                Checks.due("asleep, what " + what, y.walkTakes(skips, what), takes[what]);
            }
        }
    }

    private static void walkTakesOfThoseThatLeave() {
        Checks.sentence("Promise 25: tells what a walk would take, of cards that leave in it too");
        for (int asks = 1; asks <= 4; asks++) {
            PocketCards x = Checks.pocketOf(0, 128);
            x.leave(128, asks);
            int told = asks < 3 ? 1 : 2;
            Checks.due("cards with " + asks + " to go", x.walkTakes(true, 2), told);
            Checks.due("again", x.walkTakes(false, 2), told);
            Checks.due("it goes on with as many", x.ofCard(128, 1), asks);
            Checks.due("none left", x.total(14), 0);
            Checks.due("walk", x.walk(true), told);
        }
    }

    private static void roundsTakeRange() {
        Checks.sentence("Promise 26: OUT_OF_RANGE (slots or what)");
        for (int slots : NO_SLOTS) {
            for (int what = 0; what <= 4; what++) {
                int of = what;
                Twins.unchanged("roundsTake(" + slots + ", " + what + ")", Pockets::mixed,
                    x -> x.roundsTake(slots, of), -2);
            }
            Twins.unchanged("roundsTake(" + slots + ", 5)", Pockets::mixed, x -> x.roundsTake(slots, 5), -2);
        }
        for (int what : NO_WHATS) {
            for (int slots : new int[] {1, 64, 0, 65}) {
                Twins.unchanged("roundsTake(" + slots + ", " + what + ")", Pockets::mixed,
                    x -> x.roundsTake(slots, what), -2);
            }
        }
        Checks.sentence("Promise 26, slots: 1 to 64");
        for (int slots = 1; slots <= 64; slots++) {
            PocketCards x = Checks.pocketOf(5);
            int[] takes = {1, 4 + slots - 1 + 9, 1, 0, slots};
            for (int what = 0; what <= 4; what++) {
                Checks.due("roundsTake(" + slots + ", " + what + ")", x.roundsTake(slots, what), takes[what]);
            }
        }
    }

    private static void roundsTakeLikeRounds() {
        Checks.sentence("Promise 26: 0 for the frames, 1 for the time, 2 for the cards, 3 for the clashes, 4 for the slots");
        int[] totals = {10, 9, 7, 8, 5};
        for (int cards = 0; cards <= 20; cards++) {
            for (int kind = 0; kind < 6; kind++) {
                PocketCards x = Pockets.ofSize(cards);
                x.set(0, kind % 2);
                x.set(1, kind / 2);
                x.ask(0, 0);
                x.frame(8);
                int slots = 1 + (7 * cards + 11 * kind) % 64;
                int[] takes = new int[5];
                for (int what = 0; what <= 4; what++) {
                    takes[what] = x.roundsTake(slots, what) + x.total(totals[what]);
                }
                int frames = x.roundsTake(slots, 0);
                Checks.due("rounds(" + slots + ") of " + cards, x.rounds(slots), frames);
                for (int what = 0; what <= 4; what++) {
                    Checks.due("what " + what + " of " + cards, x.total(totals[what]), takes[what]);
                }
            }
        }
        Checks.sentence("Promise 26: there were fewer than 40 frames");
        PocketCards x = Checks.pocketOf(10, 20);
        int[] takes = {40, 40 * 13, 0, 40, 40};
        for (int what = 0; what <= 4; what++) {
            Checks.due("roundsTake(1, " + what + ")", x.roundsTake(1, what), takes[what]);
        }
    }

    private static void roundsTakeOfNobody() {
        Checks.sentence("Promise 26: rounds of nobody take one frame");
        for (int slots : new int[] {1, 2, 63, 64}) {
            int[] takes = {1, 4 + slots, 0, 0, slots};
            for (int what = 0; what <= 4; what++) {
                int of = what;
                Twins.unchanged("roundsTake(" + slots + ", " + what + ")", Pockets::fresh,
                    x -> x.roundsTake(slots, of), takes[what]);
            }
        }
    }

    private static void nothingChanges() {
        Checks.sentence("What would be; nothing changes");
        PocketCards x = new PocketCards();
        Pockets.mixed(x);
        int best = x.bestFrame();
        Twins.unchanged("bestFrame()", Pockets::mixed, y -> y.bestFrame(), best);
        PocketCards z = new PocketCards();
        Pockets.full(z);
        int[] takes = {z.bestFrame(), z.roundsTake(3, 0), z.roundsTake(64, 1), z.walkTakes(false, 1), z.thickest(5)};
        Twins.unchanged("bestFrame()", Pockets::full, y -> y.bestFrame(), takes[0]);
        Twins.unchanged("roundsTake(3, 0)", Pockets::full, y -> y.roundsTake(3, 0), takes[1]);
        Twins.unchanged("roundsTake(64, 1)", Pockets::full, y -> y.roundsTake(64, 1), takes[2]);
        Twins.unchanged("walkTakes(false, 1)", Pockets::full, y -> y.walkTakes(false, 1), takes[3]);
        Twins.unchanged("thickest(5)", Pockets::full, y -> y.thickest(5), takes[4]);
        for (int i = 0; i < 3; i++) {
            Checks.due("the same again", z.bestFrame(), takes[0]);
            Checks.due("the same again", z.roundsTake(3, 0), takes[1]);
            Checks.due("the same again", z.walkTakes(false, 1), takes[3]);
        }
    }

    private static void bestFrameOfNobody() {
        Checks.sentence("Promise 27: returns the slots, 1 to 64 (of nobody: the frame of the least time)");
        Twins.unchanged("bestFrame() of a new object", Pockets::fresh, x -> x.bestFrame(), 1);
        PocketCards x = Checks.pocketOf(1, 2);
        x.sleep(1);
        Checks.due("of one awake", x.bestFrame(), 1);
        x.sleep(2);
        Checks.due("of sleepers", x.bestFrame(), 1);
    }

    /** How many are told by a frame, and the time that it takes, by lot alone: no card leaves. */
    private static int[] toldAndTime(int x, int cards, int slots) {
        Lot lot = new Lot(x);
        int[] row = new int[slots];
        for (int i = 0; i < cards; i++) {
            row[lot.draw(slots)]++;
        }
        int told = 0;
        int time = 4;
        for (int here : row) {
            told += here == 1 ? 1 : 0;
            time += here == 0 ? 1 : 9;
        }
        return new int[] {told, time};
    }

    private static int bestByLot(int x, int cards) {
        int best = 1;
        int[] bestFrame = toldAndTime(x, cards, 1);
        for (int slots = 2; slots <= 64; slots++) {
            int[] frame = toldAndTime(x, cards, slots);
            if (frame[0] > bestFrame[0] || (frame[0] == bestFrame[0] && frame[1] < bestFrame[1])) {
                best = slots;
                bestFrame = frame;
            }
        }
        return best;
    }

    /** Of the frames by which as many are told: the first one, and the last one of the least time. */
    private static int[] otherBests(int x, int cards) {
        int most = toldAndTime(x, cards, bestByLot(x, cards))[0];
        int least = toldAndTime(x, cards, bestByLot(x, cards))[1];
        int first = 0;
        int last = 0;
        for (int slots = 64; slots >= 1; slots--) {
            int[] frame = toldAndTime(x, cards, slots);
            if (frame[0] == most) {
                first = slots;
                last = last == 0 && frame[1] == least ? slots : last;
            }
        }
        return new int[] {first, last};
    }

    private static void bestFrameByTheWords() {
        Checks.sentence("Promise 27: finds the frame by which the most cards would be told");
        for (int cards = 1; cards <= 20; cards++) {
            PocketCards x = Pockets.ofSize(cards);
            for (int i = 0; i < 20; i++) {
                dueBest(x, 77777 * i + cards, cards);
            }
        }
        Checks.sentence("Promise 27: of several the one that takes the least time");
        PocketCards x = Pockets.ofSize(20);
        for (int start : new int[] {1602, 4800, 6417, 8210}) {
            dueBest(x, start, 20);
            Checks.due("a smaller one tells as many", otherBests(start, 20)[0] < x.bestFrame() ? 1 : 0, 1);
        }
        Checks.sentence("Promise 27: of these the one with the fewest slots");
        for (int start : new int[] {273, 12475, 18073, 23868}) {
            dueBest(x, start, 20);
            Checks.due("a greater one takes as long", otherBests(start, 20)[1] > x.bestFrame() ? 1 : 0, 1);
        }
        Checks.sentence("Promise 27: returns the slots, 1 to 64");
        int[] starts = {9, 52, 13, 57};
        int[] bests = {64, 64, 63, 63};
        for (int i = 0; i < starts.length; i++) {
            dueBest(x, starts[i], 20);
            Checks.due("bestFrame() from " + starts[i], x.bestFrame(), bests[i]);
        }
    }

    private static void dueBest(PocketCards x, int start, int cards) {
        x.shuffle(start);
        Checks.due("bestFrame() of " + cards + " from " + start, x.bestFrame(), bestByLot(start, cards));
    }

    private static void bestFrameAsTheNextOne() {
        Checks.sentence("Promise 27: if it was the next one");
        PocketCards x = Pockets.ofSize(12);
        int seen = x.total(13);
        for (int i = 0; i < 6; i++) {
            int best = x.bestFrame();
            Checks.due("bestFrame() from " + seen, best, bestByLot(seen, 12));
            Checks.due("by which so many are told", x.frame(best), toldAndTime(seen, 12, best)[0]);
            x.wakeAll();
            seen = x.total(13);
        }
    }

    private static void bestFrameOfThoseThatLeave() {
        Checks.sentence("Promise 27: the cards that leave in the frame are not told");
        for (int asks = 1; asks <= 64; asks += 3) {
            dueBestByTrial(10, 2, asks, 1000 * asks);
        }
        Checks.sentence("Promise 27: the least time, if no frame tells any");
        // Both cards leave behind the first slot.
        int[] starts = {23, 230};
        int[] bests = {2, 4};
        for (int i = 0; i < starts.length; i++) {
            dueBestByTrial(2, 1, 1, starts[i]);
            Checks.due("bestFrame() from " + starts[i], leavingAlike(2, 1, 1, starts[i]).bestFrame(), bests[i]);
        }
    }

    /** Makes each frame, on a new object, to find the best one. */
    private static void dueBestByTrial(int cards, int step, int asks, int start) {
        int best = 0;
        int most = -1;
        int least = 0;
        for (int slots = 1; slots <= 64; slots++) {
            PocketCards y = leavingAlike(cards, step, asks, start);
            int told = y.frame(slots);
            if (told > most || (told == most && y.total(9) < least)) {
                best = slots;
                most = told;
                least = y.total(9);
            }
        }
        PocketCards x = leavingAlike(cards, step, asks, start);
        Checks.due("bestFrame() with " + asks + " to go", x.bestFrame(), best);
        Checks.due("they go on with as many", x.ofCard(0, 1), asks);
    }

    private static PocketCards leavingAlike(int cards, int step, int asks, int start) {
        PocketCards x = Pockets.ofSize(cards);
        for (int i = 0; i < cards; i += step) {
            x.leave(10 * i, asks);
        }
        x.shuffle(start);
        return x;
    }

    private static void thickestRange() {
        Checks.sentence("Promise 28, length: 0 to 8");
        for (int length : new int[] {LEAST, -32, -1, 9, 10, 31, 32, 40, MOST}) {
            Twins.unchanged("thickest(" + length + ")", Pockets::mixed, x -> x.thickest(length), -2);
        }
        for (int length = 0; length <= 8; length++) {
            Checks.due("thickest(" + length + ") of 255", Checks.pocketOf(255).thickest(length), (1 << length) - 1);
            Checks.due("thickest(" + length + ") of 0", Checks.pocketOf(0).thickest(length), 0);
        }
        Twins.unchanged("thickest(8)", Pockets::mixed, x -> x.thickest(8), 20);
    }

    private static void thickestOfNobody() {
        Checks.sentence("Promise 28: NONE if no card is awake");
        for (int length = 0; length <= 8; length++) {
            int of = length;
            Twins.unchanged("thickest(" + length + ") of a new object", Pockets::fresh, x -> x.thickest(of), -5);
            Twins.unchanged("thickest(" + length + ") of sleepers", x -> {
                Pockets.mixed(x);
                x.walk(true);
            }, x -> x.thickest(of), -5);
        }
        Checks.sentence("Promise 28: OUT_OF_RANGE stands ahead of NONE");
        for (int length : new int[] {LEAST, -1, 9, MOST}) {
            Twins.unchanged("thickest(" + length + ") of a new object", Pockets::fresh, x -> x.thickest(length), -2);
        }
    }

    private static void thickest() {
        Checks.sentence("Promise 28: that the most cards that are awake have, of several the one with the least bits");
        PocketCards x = Checks.pocketOf(10, 11, 90, 91, 200, 201);
        Checks.due("three pairs, 7", x.thickest(7), 5);
        Checks.due("six cards, 8", x.thickest(8), 10);
        Checks.due("two and four, 1", x.thickest(1), 0);
        x.sleep(10);
        Checks.due("two pairs, 7", x.thickest(7), 45);
        Checks.due("five cards, 8", x.thickest(8), 11);
        x.sleep(90);
        Checks.due("one pair, 7", x.thickest(7), 100);
        Checks.due("two and two, 1", x.thickest(1), 0);
        x.sleep(91);
        Checks.due("one and two, 1", x.thickest(1), 1);
        x.wakeAll();
        x.put(202);
        Checks.due("three of a kind, 6", x.thickest(6), 50);
        Checks.due("pairs all the same, 7", x.thickest(7), 5);
        PocketCards y = new PocketCards();
        for (int i = 0; i < 20; i++) {
            y.put(236 + i);
        }
        Checks.due("all of twenty, 0", y.thickest(0), 0);
        Checks.due("all of twenty, 1", y.thickest(1), 1);
        Checks.due("sixteen of twenty, 4", y.thickest(4), 15);
        Checks.due("eight and eight, 5", y.thickest(5), 30);
        Checks.due("one each, 8", y.thickest(8), 236);
    }
}
