/** Promises 20 to 24: what there is. */
public final class WhatThereIsTest {
    public static void main(String[] args) {
        card();
        ofCard();
        told();
        total();
        count();
        Checks.end("WhatThereIsTest");
    }

    private static void card() {
        PocketCards x = Checks.pocketOf(200, 0, 255, 7);
        x.sleep(7);
        int[] names = {0, 7, 200, 255};
        for (int i = 0; i < names.length; i++) {
            Checks.due("card(" + i + ")", x.card(i), names[i]);
        }
        Checks.due("card(4)", x.card(4), -5);
        Checks.due("card(20)", x.card(20), -5);
        Checks.due("card(most)", x.card(Integer.MAX_VALUE), -5);
        Checks.due("card(-1)", x.card(-1), -2);
        Checks.due("card(least)", x.card(Integer.MIN_VALUE), -2);
    }

    private static void ofCard() {
        PocketCards x = Checks.pocketOf(0);
        Checks.due("ofCard alone", x.ofCard(0, 3), -5);
        x.put(255);
        Checks.due("ofCard: nothing shared", x.ofCard(0, 3), 0);
        Checks.due("ofCard: the least shares most", Checks.pocketOf(0, 1, 9).ofCard(1, 3), 7);
        x.put(3);
        x.put(2);
        x.sleep(3);
        Checks.due("ofCard: 0 shares", x.ofCard(0, 3), 6);
        Checks.due("ofCard: 3 shares", x.ofCard(3, 3), 7);
        Checks.due("ofCard: 2 shares with a sleeper", x.ofCard(2, 3), 7);
        Checks.due("ofCard: 255 shares", x.ofCard(255, 3), 0);
        Checks.due("ofCard: asleep", x.ofCard(3, 0), 0);
        Checks.due("ofCard: awake", x.ofCard(2, 0), 1);
        x.leave(2, 50);
        Checks.due("ofCard: leaves", x.ofCard(2, 1), 50);
        Checks.due("ofCard: leaves not", x.ofCard(3, 1), 0);
        x.ask(8, 2);
        Checks.due("ofCard: tellings", x.ofCard(2, 2), 1);
        Checks.due("ofCard: no tellings", x.ofCard(0, 2), 0);
        Checks.due("ofCard(1, 9)", x.ofCard(1, 9), -1);
        Checks.due("ofCard(-1, 0)", x.ofCard(-1, 0), -1);
        Checks.due("ofCard(256, 0)", x.ofCard(256, 0), -1);
        Checks.due("ofCard(0, -1)", x.ofCard(0, -1), -2);
        Checks.due("ofCard(0, 4)", x.ofCard(0, 4), -2);
    }

    private static void told() {
        PocketCards x = Checks.pocketOf(3, 4);
        Checks.due("told(0) of nothing", x.told(0), -5);
        x.ask(8, 4);
        x.ask(8, 3);
        Checks.due("told(0)", x.told(0), 4);
        Checks.due("told(1)", x.told(1), 3);
        Checks.due("told(2)", x.told(2), -5);
        Checks.due("told(most)", x.told(Integer.MAX_VALUE), -5);
        Checks.due("told(-1)", x.told(-1), -2);
        Checks.due("told(least)", x.told(Integer.MIN_VALUE), -2);
    }

    private static void total() {
        PocketCards x = Checks.pocketOf(1, 2, 3, 4, 5);
        x.leave(4, 2);
        x.leave(5, 90);
        x.ask(8, 3);
        x.ask(7, 100);
        x.frame(1);
        x.set(0, 0);
        x.set(1, 2);
        x.shuffle(12);
        x.type('w');
        Checks.dueTotals("total", x, 0, 4, 3, 1, 1, 2, 1, 1, 1, 1, 13 + 13 + 13, 1, 0, 2, 12, 1, 4, 1);
        Checks.due("total(17)", x.total(17), -2);
        Checks.due("total(-1)", x.total(-1), -2);
        Checks.due("total(most)", x.total(Integer.MAX_VALUE), -2);
        Checks.due("total(least)", x.total(Integer.MIN_VALUE), -2);
    }

    private static void count() {
        PocketCards x = Checks.pocketOf(0, 1, 128, 129, 255);
        x.sleep(129);
        Checks.due("count(0, 0)", x.count(0, 0), 4);
        Checks.due("count(1, 1)", x.count(1, 1), 2);
        Checks.due("count(7, 64)", x.count(7, 64), 1);
        Checks.due("count(8, 255)", x.count(8, 255), 1);
        Checks.due("count(8, 129)", x.count(8, 129), 0);
        Checks.due("count(4, 5)", x.count(4, 5), 0);
        int[][] wrong = {{-1, 0}, {9, 0}, {0, 1}, {1, 2}, {8, 256}, {4, -1}, {33, 1}};
        for (int[] row : wrong) {
            Checks.due("count(" + row[0] + ", " + row[1] + ")", x.count(row[0], row[1]), -2);
        }
        Checks.due("count: no ask", x.total(4), 0);
    }
}
