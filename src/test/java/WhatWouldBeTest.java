/** Promises 25 to 28: what would be. */
public final class WhatWouldBeTest {
    public static void main(String[] args) {
        walkTakes();
        roundsTake();
        bestFrame();
        thickest();
        nothingChanges();
        Checks.end("WhatWouldBeTest");
    }

    private static void walkTakes() {
        PocketCards x = Checks.pocketOf(64, 65);
        x.ask(1, 1);
        dueWalk(x, false, 17, 192, 2, 8, 8);
        dueWalk(x, true, 3, 38, 2, 1, 8);
        dueWalk(Checks.pocketOf(0, 64, 128), false, 5, 60, 3, 2, 2);
        dueWalk(Checks.pocketOf(0, 64, 128), true, 5, 60, 3, 2, 2);
        dueWalk(new PocketCards(), false, 1, 6, 0, 0, 0);
        dueWalk(Checks.pocketOf(77), true, 1, 12, 1, 0, 0);
        PocketCards y = Checks.pocketOf(0, 8);
        y.leave(8, 2);
        dueWalk(y, true, 3, 12 + 12 + 11, 1, 1, 5);
        y.set(0, 0);
        dueWalk(y, true, 3, 12 + 12 + 11, 1, 1, 5);
        // What was asked and clashed before, and how far another walk went, is left out.
        PocketCards z = Checks.pocketOf(64, 65);
        z.ask(0, 0);
        dueWalk(z, true, 3, 38, 2, 1, 8);
        z.take(65);
        dueWalk(z, true, 1, 12, 1, 0, 0);
        Checks.due("walkTakes(true, -1)", x.walkTakes(true, -1), -2);
        Checks.due("walkTakes(false, 5)", x.walkTakes(false, 5), -2);
        Checks.due("walkTakes(false, least)", x.walkTakes(false, Integer.MIN_VALUE), -2);
    }

    private static void dueWalk(PocketCards x, boolean skips, int... wants) {
        for (int i = 0; i < wants.length; i++) {
            Checks.due("walkTakes(" + skips + ", " + i + ")", x.walkTakes(skips, i), wants[i]);
        }
    }

    private static void roundsTake() {
        PocketCards x = Checks.pocketOf(10, 20);
        dueRounds(x, 1, 40, 520, 0, 40, 40);
        dueRounds(x, 8, 2, 48, 2, 1, 16);
        x.set(1, 1);
        dueRounds(x, 1, 4, 63, 2, 3, 7);
        x.set(1, 2);
        dueRounds(x, 4, 4, 16 + 5 + 45, 2, 3, 10);
        dueRounds(new PocketCards(), 64, 1, 68, 0, 0, 64);
        // What a frame has told and counted before is left out.
        PocketCards y = Checks.pocketOf(10);
        y.set(0, 0);
        y.frame(9);
        dueRounds(y, 9, 1, 4 + 8 + 9, 1, 0, 9);
        // Three in two slots always clash: 9 times all of them, 31 times two, so that one is told.
        PocketCards z = Checks.pocketOf(10, 20, 30);
        z.set(0, 0);
        dueRounds(z, 2, 40, 160 + 9 * 10 + 31 * 18, 31, 40, 80);
        z.rounds(2);
        Checks.due("roundsTake(64, 3) behind clashes", z.roundsTake(64, 3), 0);
        Checks.due("roundsTake(0, 0)", x.roundsTake(0, 0), -2);
        Checks.due("roundsTake(65, 0)", x.roundsTake(65, 0), -2);
        Checks.due("roundsTake(1, -1)", x.roundsTake(1, -1), -2);
        Checks.due("roundsTake(1, 5)", x.roundsTake(1, 5), -2);
        Checks.due("roundsTake(65, 5)", x.roundsTake(65, 5), -2);
    }

    private static void dueRounds(PocketCards x, int slots, int... wants) {
        for (int i = 0; i < wants.length; i++) {
            Checks.due("roundsTake(" + slots + ", " + i + ")", x.roundsTake(slots, i), wants[i]);
        }
    }

    private static void bestFrame() {
        Checks.due("bestFrame() of nobody", new PocketCards().bestFrame(), 1);
        Checks.due("bestFrame() of one", Checks.pocketOf(10).bestFrame(), 1);
        // 16838 and 5758: alike modulo 2, different modulo 3.
        Checks.due("bestFrame() of two", Checks.pocketOf(10, 20).bestFrame(), 3);
        PocketCards x = Checks.pocketOf(10, 20, 30, 40, 50, 60);
        x.frame(8);
        Checks.due("bestFrame() of five", x.bestFrame(), 8);
        // Behind x = 0 the numbers are 0 and 21468, which 2, 3 and 4 divide, and 5 does not.
        PocketCards y = Checks.pocketOf(10, 20);
        y.shuffle(0);
        Checks.due("bestFrame() from 0", y.bestFrame(), 5);
        // No frame tells any: 26833 and 20599 are both odd, so of two slots both leave ahead of theirs.
        PocketCards w = Checks.pocketOf(10, 20);
        w.leave(10, 1);
        w.leave(20, 1);
        w.shuffle(23);
        Checks.due("bestFrame() by the time", w.bestFrame(), 2);
        // 6186 and 12786: both 0 of 1, 2 and 3, both 2 of 4, both 1 of 5.
        w.shuffle(230);
        Checks.due("bestFrame() by the time, then the slots", w.bestFrame(), 4);
        // One of two leaves behind the first slot: of a single slot both clash.
        PocketCards z = Checks.pocketOf(10, 20);
        z.leave(10, 1);
        Checks.due("bestFrame() of one that leaves", z.bestFrame(), bestByHand(10, 1));
    }

    /** Tries each frame for real, on a new object. */
    private static int bestByHand(int leaving, int asks) {
        int best = 0;
        int most = -1;
        int least = 0;
        for (int slots = 1; slots <= 64; slots++) {
            PocketCards x = Checks.pocketOf(10, 20);
            x.leave(leaving, asks);
            int told = x.frame(slots);
            if (told > most || (told == most && x.total(9) < least)) {
                best = slots;
                most = told;
                least = x.total(9);
            }
        }
        return best;
    }

    private static void thickest() {
        PocketCards x = new PocketCards();
        Checks.due("thickest(0) of nobody", x.thickest(0), -5);
        Checks.due("thickest(9) of nobody", x.thickest(9), -2);
        x.put(0);
        x.put(128);
        x.put(129);
        x.put(255);
        Checks.due("thickest(0)", x.thickest(0), 0);
        Checks.due("thickest(1)", x.thickest(1), 1);
        Checks.due("thickest(7)", x.thickest(7), 64);
        Checks.due("thickest(8)", x.thickest(8), 0);
        x.sleep(129);
        Checks.due("thickest(7) with a sleeper", x.thickest(7), 0);
        x.sleep(0);
        x.sleep(128);
        Checks.due("thickest(8) of one", x.thickest(8), 255);
        x.sleep(255);
        Checks.due("thickest(8) of sleepers", x.thickest(8), -5);
        Checks.due("thickest(-1)", x.thickest(-1), -2);
        Checks.due("thickest(9)", x.thickest(9), -2);
        Checks.due("thickest(32)", x.thickest(32), -2);
    }

    private static void nothingChanges() {
        PocketCards x = Checks.pocketOf(1, 2, 3);
        x.leave(2, 3);
        x.walkTakes(true, 0);
        x.walkTakes(false, 0);
        x.roundsTake(4, 0);
        x.bestFrame();
        x.thickest(4);
        Checks.dueTotals("nothing changes", x, 0, 3, 3, 1, 0, 0, 0, 0, 0, 0, 0, 0, 1, 0, 1, 0, 4, 0);
        Checks.due("nothing changes: leave", x.ofCard(2, 1), 3);
        Checks.due("nothing changes: undo()", x.undo(), 3);
        Checks.due("nothing changes: undone", x.ofCard(2, 1), 0);
    }
}
