/** Promises 10 to 13: asks, walks, frames and rounds. */
public final class AskingTest {
    public static void main(String[] args) {
        ask();
        askRefused();
        askStayingAwake();
        toldIsLimited();
        leavingByAsks();
        plainWalk();
        skippingWalk();
        walkStayingAwake();
        leavingInWalks();
        frame();
        frameOfSleepers();
        leavingInFrames();
        roundsOfOneSize();
        roundsByClashes();
        roundsByParts();
        roundsOfThoseThatLeave();
        Checks.end("AskingTest");
    }

    private static void ask() {
        PocketCards x = Checks.pocketOf(18, 23, 128);
        int[] lengths = {0, 1, 3, 3, 8, 7, 8, 0, 0};
        int[] bits = {0, 0, 0, 1, 0, 9, 23, 0, 0};
        int[] answers = {400, 405, 405, 300, 300, 18, 23, 128, 300};
        int[] times = {12, 24, 36, 45, 59, 71, 84, 96, 102};
        for (int i = 0; i < lengths.length; i++) {
            String call = "ask(" + lengths[i] + ", " + bits[i] + ")";
            Checks.due(call, x.ask(lengths[i], bits[i]), answers[i]);
            Checks.due(call + ": time", x.total(9), times[i]);
        }
        Checks.dueTotals("ask", x, 4, 9, 0, 3, 3, 3);
        Checks.dueTold("ask", x, 18, 23, 128);
        Checks.due("ask: awake", x.total(1), 0);
        Checks.due("ask: told once", x.ofCard(23, 2), 1);
        Checks.due("ask: states", x.total(15), 4);
        Checks.due("ask of the name 0", Checks.pocketOf(0).ask(0, 0), 0);
        Checks.due("ask at the last bit", Checks.pocketOf(254, 255).ask(7, 127), 407);
        Checks.due("ask of three", Checks.pocketOf(64, 80, 65).ask(2, 1), 403);
    }

    private static void askRefused() {
        PocketCards x = Checks.pocketOf(1);
        int[][] wrong = {{-1, 0}, {9, 0}, {0, 1}, {3, 8}, {3, -1}, {8, 256}, {32, 0}, {-32, 0},
            {Integer.MAX_VALUE, 0}, {Integer.MIN_VALUE, 0}, {0, Integer.MIN_VALUE}};
        for (int[] row : wrong) {
            Checks.due("ask(" + row[0] + ", " + row[1] + ")", x.ask(row[0], row[1]), -2);
        }
        Checks.dueTotals("ask refused", x, 4, 0, 0, 0, 0, 0, 0);
        Checks.due("ask refused: states", x.total(15), 1);
    }

    private static void askStayingAwake() {
        PocketCards x = Checks.pocketOf(7);
        x.set(0, 0);
        Checks.due("stay: ask", x.ask(0, 0), 7);
        Checks.due("stay: ask again", x.ask(0, 0), 7);
        Checks.due("stay: awake", x.ofCard(7, 0), 1);
        Checks.due("stay: tellings", x.ofCard(7, 2), 2);
        Checks.dueTold("stay", x, 7, 7);
        x.set(0, 1);
        x.ask(0, 0);
        Checks.due("stay no more: awake", x.ofCard(7, 0), 0);
    }

    private static void toldIsLimited() {
        PocketCards x = Checks.pocketOf(9);
        x.ask(0, 0);
        x.take(9);
        x.put(7);
        x.set(0, 0);
        for (int i = 0; i < 198; i++) {
            x.ask(0, 0);
        }
        x.put(8);
        x.ask(8, 8);
        Checks.due("200 told: total(3)", x.total(3), 200);
        Checks.due("200 told: told(0)", x.told(0), 9);
        Checks.due("200 told: told(199)", x.told(199), 8);
        Checks.due("200 told: told(200)", x.told(200), -5);
        x.ask(8, 7);
        Checks.due("201 told: total(3)", x.total(3), 200);
        Checks.due("201 told: told(0)", x.told(0), 7);
        Checks.due("201 told: told(198)", x.told(198), 8);
        Checks.due("201 told: told(199)", x.told(199), 7);
        Checks.due("201 told: names so far", x.total(7), 201);
        Checks.due("201 told: tellings", x.ofCard(7, 2), 199);
        Checks.due("201 told: forget()", x.forget(), 200);
    }

    private static void leavingByAsks() {
        PocketCards x = Checks.pocketOf(5, 6, 7, 200);
        x.leave(5, 1);
        x.leave(6, 2);
        x.leave(7, 3);
        x.sleep(7);
        Checks.due("leaving: told and leaves", x.ask(8, 5), 5);
        Checks.due("leaving: 5 is gone", x.ofCard(5, 0), -1);
        Checks.dueTold("leaving", x, 5);
        Checks.due("leaving: 6 goes on", x.ofCard(6, 1), 1);
        Checks.due("leaving: a silence counts", x.ask(8, 99), 300);
        Checks.due("leaving: 6 is gone", x.ofCard(6, 0), -1);
        Checks.due("leaving: 7 goes on asleep", x.ofCard(7, 1), 1);
        x.ask(8, 200);
        Checks.due("leaving: 7 is gone", x.ofCard(7, 0), -1);
        Checks.due("leaving: cards that left", x.total(14), 3);
        Checks.due("leaving: cards", x.total(0), 1);
        Checks.due("leaving: 200 stays", x.card(0), 200);
        Checks.due("leaving: 200 is not going to", x.ofCard(200, 1), 0);
        PocketCards y = Checks.pocketOf(1, 2);
        y.leave(1, 1);
        y.leave(2, 1);
        Checks.due("leaving: both clash", y.ask(0, 0), 406);
        Checks.due("leaving: both are gone", y.total(0), 0);
        y.put(3);
        y.leave(3, 200);
        for (int i = 0; i < 199; i++) {
            y.ask(8, 0);
        }
        Checks.due("leaving: the last ask of 200", y.ofCard(3, 1), 1);
        y.ask(8, 0);
        Checks.due("leaving: behind 200 asks", y.total(0), 0);
    }

    /** Asks "", 0, 00, 01, 1: 64 and 128 are 01000000 and 10000000, 65 and 64 differ at the bit 7. */
    private static void plainWalk() {
        PocketCards x = Checks.pocketOf(128, 64, 0);
        Checks.due("plain: walk", x.walk(false), 3);
        Checks.dueTold("plain", x, 0, 64, 128);
        Checks.dueTotals("plain", x, 4, 5, 0, 0, 3, 2, 60);
        Checks.due("plain: walk again", x.walk(false), 0);
        Checks.dueTotals("plain again", x, 4, 6, 0, 1, 3, 2, 66);
        Checks.due("plain: states", x.total(15), 4);
        PocketCards y = Checks.pocketOf(65, 64);
        Checks.due("plain: walk to the end", y.walk(false), 2);
        // Clashes of the lengths 0 to 7 at 12 each, silences 1 (7), 00 (8), 011 (9) to 0100001 (13),
        // and two names of the length 8.
        Checks.dueTotals("plain to the end", y, 4, 17, 0, 7, 2, 8, 192);
        Checks.due("plain: empty pocket", new PocketCards().walk(false), 0);
    }

    private static void skippingWalk() {
        PocketCards x = Checks.pocketOf(65, 64);
        Checks.due("skipping: walk", x.walk(true), 2);
        Checks.dueTold("skipping", x, 64, 65);
        Checks.dueTotals("skipping", x, 4, 3, 0, 0, 2, 1, 38);
        PocketCards y = Checks.pocketOf(255, 240, 241, 15);
        y.sleep(15);
        // "" clashes at the bit 4, 11110 at the bit 7, and 11111 is 255.
        Checks.due("skipping: two levels", y.walk(true), 3);
        Checks.dueTold("skipping two levels", y, 240, 241, 255);
        Checks.dueTotals("skipping two levels", y, 4, 5, 0, 0, 3, 2, 12 + 12 + 13 + 13 + 12);
        PocketCards z = new PocketCards();
        Checks.due("skipping: empty pocket", z.walk(true), 0);
        Checks.dueTotals("skipping empty", z, 4, 1, 0, 1, 0, 0, 6);
        Checks.due("skipping: one card", Checks.pocketOf(77).walk(true), 1);
    }

    private static void walkStayingAwake() {
        PocketCards x = Checks.pocketOf(1, 2, 130);
        x.set(0, 0);
        Checks.due("walk staying: plain", x.walk(false), 3);
        Checks.due("walk staying: skipping", x.walk(true), 3);
        Checks.dueTold("walk staying", x, 1, 2, 130, 1, 2, 130);
        Checks.due("walk staying: awake", x.total(1), 3);
    }

    private static void leavingInWalks() {
        // Behind "" at the bit 4 the card 8 leaves; 00000 then has 0 alone, and 00001 is a silence.
        PocketCards x = Checks.pocketOf(0, 8);
        x.leave(8, 2);
        Checks.due("walk leaving: skipping", x.walk(true), 1);
        Checks.dueTotals("walk leaving", x, 4, 3, 0, 1, 1, 1);
        Checks.due("walk leaving: left", x.total(14), 1);
        // The stem is that of all that answered, though the one of the least name is gone by then.
        PocketCards y = Checks.pocketOf(128, 136, 140);
        y.leave(128, 1);
        Checks.due("walk leaving: stem stays", y.walk(true), 2);
        // "" clashes at 4; 10000 is a silence (11); 10001 clashes at 5; 100010 and 100011 are names.
        Checks.dueTotals("walk leaving stem", y, 4, 5, 0, 1, 2, 2, 12 + 11 + 12 + 12 + 12);
        Checks.dueTold("walk leaving stem", y, 136, 140);
        PocketCards z = Checks.pocketOf(0, 128);
        z.leave(0, 1);
        z.leave(128, 1);
        Checks.due("walk leaving: all at once", z.walk(false), 0);
        Checks.dueTotals("walk leaving all", z, 4, 3, 0, 2, 0, 1, 12 + 7 + 7);
    }

    /** From x = 1 the numbers are 16838, 5758, 10113, 17515, 31051, 5627 and so on. */
    private static void frame() {
        PocketCards x = Checks.pocketOf(60, 50, 40, 30, 20, 10);
        Checks.due("frame(0)", x.frame(0), -2);
        Checks.due("frame(65)", x.frame(65), -2);
        Checks.due("frame(-1)", x.frame(-1), -2);
        Checks.due("frame(least)", x.frame(Integer.MIN_VALUE), -2);
        Checks.due("frame refused: x", x.total(13), 1);
        Checks.due("frame refused: states", x.total(15), 4);
        // The slots: 6 of 10 and 20, 1 of 30, 3 of 40, 50 and 60.
        Checks.due("frame(8)", x.frame(8), 1);
        Checks.dueTold("frame(8)", x, 30);
        Checks.dueTotals("frame(8)", x, 4, 0, 8, 5, 1, 2, 4 + 5 + 27, 1);
        Checks.due("frame(8): x", x.total(13), 368800899);
        PocketCards y = Checks.pocketOf(10, 20, 30);
        // 16838 % 64 = 6, 5758 % 64 = 62, 10113 % 64 = 1: told by rising slots.
        Checks.due("frame(64)", y.frame(64), 3);
        Checks.dueTold("frame(64)", y, 30, 10, 20);
        Checks.dueTotals("frame(64)", y, 4, 0, 64, 61, 3, 0, 4 + 61 + 27, 1);
        Checks.due("frame(64): asleep", y.total(1), 0);
        Checks.due("frame(1) of nobody", y.frame(1), 0);
        Checks.dueTotals("frame(1)", y, 4, 0, 65, 62, 3, 0, 92 + 5, 2);
        PocketCards z = Checks.pocketOf(10);
        Checks.due("frame(1) of one", z.frame(1), 1);
        Checks.due("frame(1): x is drawn", z.total(13), 1103527590);
    }

    private static void frameOfSleepers() {
        PocketCards x = Checks.pocketOf(10, 20);
        x.sleep(10);
        x.set(0, 0);
        // 20 draws the first number: 16838 % 3 = 2, and stays awake: 5758 % 3 = 1.
        Checks.due("sleepers: frame", x.frame(3), 1);
        Checks.due("sleepers: x", x.total(13), 1103527590);
        Checks.due("sleepers: frame again", x.frame(3), 1);
        Checks.dueTold("sleepers", x, 20, 20);
        Checks.due("sleepers: tellings", x.ofCard(20, 2), 2);
        x.sleep(20);
        Checks.due("sleepers: all", x.frame(3), 0);
    }

    private static void leavingInFrames() {
        // The slot 3 would be that of 40, 50 and 60: two of them leave behind the slot 2.
        PocketCards x = Checks.pocketOf(10, 20, 30, 40, 50, 60);
        x.leave(40, 3);
        x.leave(50, 3);
        x.leave(60, 4);
        Checks.due("frame leaving", x.frame(8), 2);
        Checks.dueTold("frame leaving", x, 30, 60);
        Checks.due("frame leaving: left", x.total(14), 3);
        Checks.dueTotals("frame leaving", x, 4, 0, 8, 5, 2, 1, 4 + 5 + 27);
        PocketCards y = Checks.pocketOf(10);
        y.leave(10, 6);
        Checks.due("frame leaving: before its slot", y.frame(8), 0);
        PocketCards z = Checks.pocketOf(10);
        z.leave(10, 7);
        Checks.due("frame leaving: behind its slot", z.frame(8), 1);
        Checks.due("frame leaving: gone", z.total(0), 0);
        // 10 leaves behind the slot 0, and 20 behind the slot 9, ahead of its slot 62.
        PocketCards v = Checks.pocketOf(10, 20);
        v.leave(10, 1);
        v.leave(20, 10);
        Checks.due("frame leaving: slots stay with their cards", v.frame(64), 0);
        PocketCards w = Checks.pocketOf(1);
        w.leave(1, 65);
        w.sleep(1);
        w.frame(64);
        Checks.due("frame leaving: goes on asleep", w.ofCard(1, 1), 1);
    }

    private static void roundsOfOneSize() {
        PocketCards x = Checks.pocketOf(10, 20);
        Checks.due("rounds(0)", x.rounds(0), -2);
        Checks.due("rounds(65)", x.rounds(65), -2);
        Checks.due("rounds refused: states", x.total(15), 2);
        Checks.due("rounds(1)", x.rounds(1), 40);
        Checks.dueTotals("rounds(1)", x, 4, 0, 40, 0, 0, 40, 40 * 13, 40);
        Checks.due("rounds(1): states", x.total(15), 3);
        PocketCards y = Checks.pocketOf(10, 20);
        // 6 and 6, then 1 and 3.
        Checks.due("rounds(8)", y.rounds(8), 2);
        Checks.dueTotals("rounds(8)", y, 4, 0, 16, 13, 2, 1, 8 + 13 + 27, 2);
        Checks.due("rounds of nobody", new PocketCards().rounds(64), 1);
        PocketCards z = Checks.pocketOf(10);
        z.set(0, 0);
        Checks.due("rounds of one", z.rounds(1), 1);
    }

    /** The pairs: 16838 and 5758, 10113 and 17515, 31051 and 5627, 23010 and 7419. */
    private static void roundsByClashes() {
        PocketCards x = Checks.pocketOf(10, 20);
        x.set(1, 1);
        // The sizes 1, 2 (both 1), 2 (both 1), 2 (0 and 1).
        Checks.due("by clashes: rounds(1)", x.rounds(1), 4);
        Checks.dueTotals("by clashes", x, 4, 0, 7, 2, 2, 3, 16 + 2 + 45, 4);
        PocketCards y = Checks.pocketOf(10, 20);
        y.set(1, 1);
        // The sizes 8 (both 6), 2 (both 1), 2, 2.
        Checks.due("by clashes: rounds(8)", y.rounds(8), 4);
        Checks.due("by clashes: slots", y.total(5), 14);
    }

    private static void roundsByParts() {
        int[] firsts = {1, 2, 3, 4, 5, 8, 64};
        // 1: 1, 2, 2, 2; 2: 2, 2, 2, 2; 3: (2, 1); 4: a quarter, so 2, 2, 2; 5: 2, 2, 2; 8: 4.
        int[] frames = {4, 4, 1, 4, 4, 2, 1};
        int[] slots = {7, 8, 3, 10, 11, 12, 64};
        for (int i = 0; i < firsts.length; i++) {
            PocketCards x = Checks.pocketOf(10, 20);
            x.set(1, 2);
            Checks.due("by parts: rounds(" + firsts[i] + ")", x.rounds(firsts[i]), frames[i]);
            Checks.due("by parts: slots of " + firsts[i], x.total(5), slots[i]);
        }
        // The sizes 2 (both clash), 4 (a half), 4 (a quarter), 2, 2, 2.
        PocketCards y = Checks.pocketOf(10, 20, 30, 40, 50);
        y.set(1, 2);
        Checks.due("by parts: rounds(2) of five", y.rounds(2), 6);
        Checks.due("by parts: slots of five", y.total(5), 16);
        // The sizes 3 (two clash), 6 (one), then 3 (one) as long as it needs.
        PocketCards z = Checks.pocketOf(10, 20, 30, 40, 50, 60);
        z.set(1, 2);
        Checks.due("by parts: rounds(3) of six", z.rounds(3), 7);
        Checks.due("by parts: slots of six", z.total(5), 24);
        Checks.dueTold("by parts", z, 30, 60, 20, 10, 50, 40);
    }

    private static void roundsOfThoseThatLeave() {
        PocketCards x = Checks.pocketOf(10, 20);
        x.leave(10, 1);
        x.leave(20, 1);
        Checks.due("rounds leaving", x.rounds(1), 2);
        Checks.dueTotals("rounds leaving", x, 4, 0, 2, 1, 0, 1, 8 + 10, 2);
    }
}
