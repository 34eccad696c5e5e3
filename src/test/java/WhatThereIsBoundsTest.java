/** The sentences of the promises 20 to 24 that name a boundary case. */
public final class WhatThereIsBoundsTest {
    private static final int LEAST = Integer.MIN_VALUE;
    private static final int MOST = Integer.MAX_VALUE;

    public static void main(String[] args) {
        card();
        ofCardRange();
        ofCardAwake();
        ofCardAsks();
        ofCardTellings();
        ofCardShared();
        told();
        totalRange();
        totals();
        totalsOfTheWhole();
        countRange();
        count();
        Checks.end("WhatThereIsBoundsTest");
    }

    private static void card() {
        Checks.sentence("Promise 20: OUT_OF_RANGE if rank is negative");
        for (int rank : new int[] {LEAST, -20, -1}) {
            Twins.unchanged("card(" + rank + ")", Pockets::mixed, x -> x.card(rank), -2);
            Twins.unchanged("card(" + rank + ") of an empty pocket", Pockets::fresh, x -> x.card(rank), -2);
        }
        Checks.sentence("Promise 20: NONE if there are not so many");
        for (int rank : new int[] {4, 5, 19, 20, 255, MOST}) {
            Twins.unchanged("card(" + rank + ")", Pockets::mixed, x -> x.card(rank), -5);
        }
        Twins.unchanged("card(0) of an empty pocket", Pockets::fresh, x -> x.card(0), -5);
        Twins.unchanged("card(20) of a full pocket", Pockets::full, x -> x.card(20), -5);
        Checks.sentence("Promise 20, rank: 0 for the card with the least name, and so on");
        PocketCards x = new PocketCards();
        for (int i = 19; i >= 0; i--) {
            x.put(10 * ((7 * i) % 20));
        }
        for (int rank = 0; rank < 20; rank++) {
            Checks.due("card(" + rank + ")", x.card(rank), 10 * rank);
        }
        x.take(0);
        Checks.due("card(18) when one is taken", x.card(18), 190);
        Checks.due("card(19) when one is taken", x.card(19), -5);
        Twins.unchanged("card(3)", Pockets::mixed, y -> y.card(3), 77);
        PocketCards z = Checks.pocketOf(255, 0);
        Checks.due("the least name of all", z.card(0), 0);
        Checks.due("the greatest name of all", z.card(1), 255);
    }

    private static void ofCardRange() {
        Checks.sentence("Promise 21: UNKNOWN");
        for (int name : new int[] {LEAST, -1, 0, 9, 11, 255, 256, 266, MOST}) {
            for (int what = 0; what <= 3; what++) {
                int of = what;
                Twins.unchanged("ofCard(" + name + ", " + what + ")", Pockets::mixed, x -> x.ofCard(name, of), -1);
            }
        }
        Twins.unchanged("ofCard(0, 0) of an empty pocket", Pockets::fresh, x -> x.ofCard(0, 0), -1);
        Checks.sentence("Promise 21: OUT_OF_RANGE");
        for (int what : new int[] {LEAST, -2, -1, 4, 5, 16, MOST}) {
            Twins.unchanged("ofCard(20, " + what + ")", Pockets::mixed, x -> x.ofCard(20, what), -2);
            Checks.due("ofCard(7, " + what + ") alone", Checks.pocketOf(7).ofCard(7, what), -2);
        }
        Checks.sentence("Promise 21: UNKNOWN stands ahead of OUT_OF_RANGE");
        for (int what : new int[] {LEAST, -1, 4, MOST}) {
            Twins.unchanged("ofCard(9, " + what + ")", Pockets::mixed, x -> x.ofCard(9, what), -1);
            Twins.unchanged("ofCard(-1, " + what + ")", Pockets::fresh, x -> x.ofCard(-1, what), -1);
        }
    }

    private static void ofCardAwake() {
        Checks.sentence("Promise 21, what: 0 for whether it is awake (1, otherwise 0)");
        PocketCards x = Checks.pocketOf(0, 255);
        Checks.due("at first", x.ofCard(0, 0), 1);
        x.sleep(0);
        Checks.due("asleep", x.ofCard(0, 0), 0);
        Checks.due("the other one", x.ofCard(255, 0), 1);
        x.ask(0, 0);
        Checks.due("told", x.ofCard(255, 0), 0);
        x.wakeAll();
        Checks.due("woken", x.ofCard(0, 0) * 10 + x.ofCard(255, 0), 11);
        Twins.unchanged("ofCard(30, 0)", Pockets::mixed, y -> y.ofCard(30, 0), 1);
    }

    private static void ofCardAsks() {
        Checks.sentence("Promise 21, what: 1 for behind how many asks it leaves (0 if it is not going to)");
        PocketCards x = Checks.pocketOf(0, 255);
        Checks.due("not going to", x.ofCard(0, 1), 0);
        x.leave(255, 200);
        Checks.due("the most", x.ofCard(255, 1), 200);
        x.ask(0, 0);
        Checks.due("one less", x.ofCard(255, 1), 199);
        Checks.due("still not going to", x.ofCard(0, 1), 0);
        x.frame(64);
        Checks.due("by slots", x.ofCard(255, 1), 135);
        Twins.unchanged("ofCard(20, 1)", Pockets::mixed, y -> y.ofCard(20, 1), 50);
    }

    private static void ofCardTellings() {
        Checks.sentence("Promise 21, what: 2 for how often it was told while it was in the pocket");
        PocketCards x = Checks.pocketOf(8, 9);
        x.set(0, 0);
        for (int times = 0; times <= 205; times++) {
            Checks.due("tellings", x.ofCard(8, 2), times);
            x.ask(8, 8);
        }
        Checks.due("those of the other one", x.ofCard(9, 2), 0);
        PocketCards y = Checks.pocketOf(8, 9);
        y.ask(8, 8);
        y.wakeAll();
        y.walk(true);
        y.wakeAll();
        y.rounds(64);
        Checks.due("by ask, walk and rounds", y.ofCard(8, 2), 3);
        y.forget();
        Checks.due("the list is forgotten, not the tellings", y.ofCard(8, 2), 3);
        y.take(8);
        y.put(8);
        Checks.due("a new card", y.ofCard(8, 2), 0);
        y.undo();
        y.undo();
        Checks.due("the earlier one again", y.ofCard(8, 2), 3);
        PocketCards z = Checks.pocketOf(8);
        z.leave(8, 1);
        z.ask(0, 0);
        z.put(8);
        Checks.due("a card that left comes anew", z.ofCard(8, 2), 0);
        Checks.due("and is told", z.ask(0, 0) * 10 + z.ofCard(8, 2), 81);
    }

    private static void ofCardShared() {
        Checks.sentence("Promise 21, what: 3 for how many of its first bits it shares (NONE if it is alone)");
        Twins.unchanged("ofCard(0, 3) alone", x -> x.put(0), x -> x.ofCard(0, 3), -5);
        Twins.unchanged("ofCard(255, 3) alone", x -> x.put(255), x -> x.ofCard(255, 3), -5);
        PocketCards x = Checks.pocketOf(5, 200);
        Checks.due("two", x.ofCard(5, 3), 0);
        x.take(200);
        Checks.due("alone again", x.ofCard(5, 3), -5);
        for (int bit = 0; bit <= 7; bit++) {
            for (int name : new int[] {0, 85, 170, 255}) {
                int other = name ^ (128 >> bit);
                PocketCards y = Checks.pocketOf(name, other);
                Checks.due(name + " shares with " + other, y.ofCard(name, 3), bit);
                Checks.due(other + " shares with " + name, y.ofCard(other, 3), bit);
            }
        }
        Checks.sentence("Promise 21: with the card that shares the most with it");
        PocketCards y = Checks.pocketOf(0, 1, 2, 128);
        Checks.due("0 with 1", y.ofCard(0, 3), 7);
        Checks.due("2 with 0", y.ofCard(2, 3), 6);
        Checks.due("128 with any", y.ofCard(128, 3), 0);
        y.sleep(1);
        Checks.due("0 with 1, asleep", y.ofCard(0, 3), 7);
        Checks.due("1, asleep", y.ofCard(1, 3), 7);
        y.take(1);
        Checks.due("0 with 2", y.ofCard(0, 3), 6);
        Twins.unchanged("ofCard(10, 3)", Pockets::mixed, z -> z.ofCard(10, 3), 3);
    }

    private static void told() {
        Checks.sentence("Promise 22: OUT_OF_RANGE if place is negative");
        for (int place : new int[] {LEAST, -200, -1}) {
            Twins.unchanged("told(" + place + ")", Pockets::mixed, x -> x.told(place), -2);
            Twins.unchanged("told(" + place + ") of nothing", Pockets::fresh, x -> x.told(place), -2);
        }
        Checks.sentence("Promise 22: NONE if there are not so many");
        for (int place : new int[] {1, 2, 199, 200, 201, MOST}) {
            Twins.unchanged("told(" + place + ")", Pockets::mixed, x -> x.told(place), -5);
        }
        Twins.unchanged("told(0) of nothing", Pockets::fresh, x -> x.told(0), -5);
        Checks.sentence("Promise 22, place: 0 for the first one, and so on");
        Twins.unchanged("told(0)", Pockets::mixed, x -> x.told(0), 10);
        PocketCards x = Pockets.ofSize(20);
        for (int i = 0; i < 20; i++) {
            Checks.due("told(" + i + ") ahead", x.told(i), -5);
            x.ask(8, 10 * ((7 * i) % 20));
            Checks.due("told(" + i + ")", x.told(i), 10 * ((7 * i) % 20));
            Checks.due("told(0)", x.told(0), 0);
        }
        x.forget();
        Checks.due("told(0) when all is forgotten", x.told(0), -5);
        x.wakeAll();
        x.ask(8, 50);
        Checks.due("told(0) anew", x.told(0), 50);
        Checks.due("told(1) anew", x.told(1), -5);
    }

    private static void totalRange() {
        Checks.sentence("Promise 23: OUT_OF_RANGE");
        for (int what : new int[] {LEAST, -2, -1, 17, 18, 256, MOST}) {
            Twins.unchanged("total(" + what + ")", Pockets::mixed, x -> x.total(what), -2);
            Twins.unchanged("total(" + what + ") of a new object", Pockets::fresh, x -> x.total(what), -2);
        }
        Checks.sentence("Promise 23, what: 0 to 16");
        int[] mixed = {4, 2, 1, 1, 1, 0, 0, 1, 0, 13, 0, 1, 2, 99, 0, 4, 4};
        for (int what = 0; what <= 16; what++) {
            int of = what;
            Twins.unchanged("total(" + what + ")", Pockets::mixed, x -> x.total(of), mixed[what]);
        }
    }

    /** Each number behind calls that make no two of them alike but by accident. */
    private static void totals() {
        Checks.sentence("Promise 23: asks, slots, silences, names, clashes, the time, frames so far");
        PocketCards x = Checks.pocketOf(1, 2, 3);
        x.ask(0, 0);
        Checks.dueTotals("a clash", x, 4, 1, 0, 0, 0, 1, 12, 0);
        x.ask(8, 2);
        Checks.dueTotals("a name", x, 4, 2, 0, 0, 1, 1, 25, 0);
        x.ask(1, 1);
        Checks.dueTotals("a silence", x, 4, 3, 0, 1, 1, 1, 32, 0);
        x.frame(1);
        Checks.dueTotals("a clash of slots", x, 4, 3, 1, 1, 1, 2, 45, 1);
        x.sleep(1);
        x.frame(1);
        Checks.dueTotals("a name of slots", x, 4, 3, 2, 1, 2, 2, 58, 2);
        x.frame(1);
        Checks.dueTotals("a silence of slots", x, 4, 3, 3, 2, 2, 2, 63, 3);
        x.rounds(64);
        Checks.dueTotals("rounds", x, 4, 3, 67, 66, 2, 2, 131, 4);
        x.walk(false);
        Checks.dueTotals("a walk", x, 4, 4, 67, 67, 2, 2, 137, 4);
        x.walkTakes(true, 0);
        x.roundsTake(5, 0);
        x.bestFrame();
        Checks.dueTotals("what would be is not counted", x, 4, 4, 67, 67, 2, 2, 137, 4);
    }

    private static void totalsOfTheWhole() {
        Checks.sentence("Promise 23: 14 for the cards that left so far (by asks and slots)");
        PocketCards x = Checks.pocketOf(1, 2, 3, 4);
        x.take(4);
        Checks.due("a card that is taken", x.total(14), 0);
        x.leave(1, 1);
        x.leave(2, 2);
        Checks.due("those going to", x.total(2), 2);
        x.ask(8, 9);
        Checks.due("by an ask", x.total(14) * 10 + x.total(2), 11);
        x.frame(1);
        Checks.due("by a slot", x.total(14) * 10 + x.total(2), 20);
        x.leave(3, 9);
        Checks.due("one going to", x.total(2), 1);
        x.sleep(3);
        Checks.due("asleep too", x.total(2), 1);
        x.take(3);
        Checks.due("taken", x.total(14) * 10 + x.total(2), 20);
        Checks.sentence("Promise 23: 0 for the cards, 1 for those that are awake, 15 for the states, 16 for the text");
        PocketCards y = new PocketCards();
        for (int i = 1; i <= 20; i++) {
            y.put(i);
            Checks.dueTotals("cards", y, 0, i, i);
            Checks.dueTotals("states and text", y, 15, Math.min(4, i), i - 1);
            y.type('w');
        }
        y.sleep(3);
        Checks.dueTotals("one asleep", y, 0, 20, 19);
    }

    private static void countRange() {
        Checks.sentence("Promise 24, length: 0 to 8");
        for (int length : new int[] {LEAST, -32, -1, 9, 10, 31, 32, 33, MOST}) {
            Twins.unchanged("count(" + length + ", 0)", Pockets::mixed, x -> x.count(length, 0), -2);
        }
        Checks.sentence("Promise 24, bits: as for ask()");
        for (int length = 0; length <= 8; length++) {
            int of = length;
            int most = (1 << length) - 1;
            for (int bits : new int[] {LEAST, -1, most + 1, 256 + most, MOST}) {
                Twins.unchanged("count(" + length + ", " + bits + ")", Pockets::mixed, x -> x.count(of, bits), -2);
            }
            PocketCards y = Checks.pocketOf(0, 255);
            Checks.due("count(" + length + ", 0)", y.count(length, 0), length == 0 ? 2 : 1);
            Checks.due("count(" + length + ", " + most + ")", y.count(length, most), length == 0 ? 2 : 1);
        }
    }

    private static void count() {
        Checks.sentence("Promise 24: returns how many cards that are awake have a beginning");
        PocketCards x = new PocketCards();
        Checks.due("count(0, 0) of an empty pocket", x.count(0, 0), 0);
        for (int name = 100; name < 120; name++) {
            x.put(name);
        }
        for (int length = 0; length <= 8; length++) {
            int all = 0;
            for (int bits = 0; bits < 1 << length && length <= 6; bits++) {
                all += x.count(length, bits);
            }
            Checks.due("all of the length " + length, all, length <= 6 ? 20 : 0);
        }
        Checks.due("count(5, 12): 96 to 103", x.count(5, 12), 4);
        Checks.due("count(5, 13): 104 to 111", x.count(5, 13), 8);
        Checks.due("count(5, 14): 112 to 119", x.count(5, 14), 8);
        x.sleep(105);
        Checks.due("count(5, 13) with a sleeper", x.count(5, 13), 7);
        Checks.due("count(8, 105), asleep", x.count(8, 105), 0);
        Checks.due("count(0, 0) with a sleeper", x.count(0, 0), 19);
        Twins.unchanged("count(0, 0)", Pockets::mixed, y -> y.count(0, 0), 2);
    }
}
