/** Promises 14 to 16: the text and its orders. */
public final class TextsTest {
    public static void main(String[] args) {
        type();
        clearText();
        faults();
        longTexts();
        orders();
        oneChange();
        errors();
        Checks.end("TextsTest");
    }

    private static void type() {
        PocketCards x = new PocketCards();
        Checks.due("type((char) 0)", x.type((char) 0), 1);
        Checks.due("type((char) 65535)", x.type((char) 65535), 2);
        for (int i = 3; i <= 60; i++) {
            Checks.due("type " + i, x.type('w'), i);
        }
        Checks.due("type 61", x.type('w'), -3);
        Checks.due("type: length", x.total(16), 60);
        Checks.due("type: states", x.total(15), 0);
    }

    private static void clearText() {
        PocketCards x = new PocketCards();
        Checks.due("clearText() of nothing", x.clearText(), 0);
        Checks.write(x, "+1;w");
        Checks.due("clearText()", x.clearText(), 4);
        Checks.due("clearText: length", x.total(16), 0);
        Checks.due("clearText: perform()", x.perform(), -100);
        Checks.due("clearText: states", x.total(15), 0);
    }

    private static void faults() {
        fault("+", 1);
        fault("-", 1);
        fault("z", 1);
        fault("f", 1);
        fault(";", 0);
        fault(" w", 0);
        fault("w ", 1);
        fault("x", 0);
        fault("W", 0);
        fault("5", 0);
        fault("ww", 1);
        fault("w5", 1);
        fault("w;", 2);
        fault("w;;w", 2);
        fault("+a", 1);
        fault("++1", 1);
        fault("+-1", 1);
        fault("+00", 2);
        fault("+07", 2);
        fault("+7a", 2);
        fault("+256", 3);
        fault("+260", 3);
        fault("+300", 3);
        fault("+1000", 4);
        fault("-999", 3);
        fault("z256", 3);
        fault("+2550", 4);
        fault("f0", 1);
        fault("f00", 1);
        fault("f65", 2);
        fault("f70", 2);
        fault("f100", 3);
        fault("f640", 3);
        fault("f64;", 4);
        fault("+1;w;+", 6);
        fault("+1;w;+1;b", 8);
        fault("" + (char) 0, 0);
        fault("+" + (char) 0, 1);
        fault("+1" + (char) 0, 2);
        fault("w;" + (char) 0, 2);
        fault("+" + (char) 0x0663, 1);
        fault("w" + (char) ('w' + 256), 1);
    }

    private static void fault(String text, int index) {
        PocketCards x = new PocketCards();
        Checks.write(x, text);
        Checks.due("perform() of " + text, x.perform(), -100 - index);
        Checks.due("perform() of " + text + ": cards", x.total(0), 0);
        Checks.due("perform() of " + text + ": asks", x.total(4), 0);
        Checks.due("perform() of " + text + ": states", x.total(15), 0);
        Checks.due("perform() of " + text + ": length", x.total(16), text.length());
    }

    private static void longTexts() {
        PocketCards x = new PocketCards();
        Checks.write(x, "w;".repeat(29) + "w");
        Checks.due("30 orders", x.perform(), 30);
        Checks.due("30 orders: asks", x.total(4), 30);
        Checks.due("30 orders: type", x.type(';'), 60);
        Checks.due("30 orders: too early an end", x.perform(), -160);
        Checks.write(x, "w;".repeat(29) + "ww");
        Checks.due("30 orders: a fault at the last place", x.perform(), -159);
        Checks.write(x, "+255;-255;".repeat(6));
        Checks.due("12 orders: too early an end", x.perform(), -160);
        Checks.write(x, "+255;-255;".repeat(5) + "+255;-255");
        Checks.due("12 orders", x.perform(), 12);
    }

    private static void orders() {
        PocketCards x = new PocketCards();
        Checks.write(x, "+0;+255;+64;+65;z255");
        Checks.due("orders: +, z", x.perform(), 5);
        Checks.due("orders: cards", x.total(0), 4);
        Checks.due("orders: awake", x.total(1), 3);
        Checks.due("orders: 255 sleeps", x.ofCard(255, 0), 0);
        Checks.write(x, "-0;v");
        Checks.due("orders: -, v", x.perform(), 2);
        Checks.due("orders: v skips", x.total(4), 3);
        Checks.dueTold("orders: v", x, 64, 65);
        Checks.write(x, "-255;a;w");
        Checks.due("orders: a, w", x.perform(), 3);
        Checks.due("orders: w does not skip", x.total(4), 3 + 17);
        Checks.write(x, "-64;-65;+10;+20;+30;f64;f1");
        Checks.due("orders: f", x.perform(), 7);
        Checks.dueTold("orders: f", x, 64, 65, 64, 65, 30, 10, 20);
        Checks.due("orders: slots", x.total(5), 65);
        Checks.due("orders: the text stays", x.total(16), 26);
    }

    private static void oneChange() {
        PocketCards x = new PocketCards();
        Checks.write(x, "+1;+2;w;a;a");
        Checks.due("one change", x.perform(), 5);
        Checks.due("one change: states", x.total(15), 1);
        Checks.due("one change: awake", x.total(1), 2);
        Checks.write(x, "a");
        Checks.due("one change: NONE", x.perform(), 1);
        Checks.due("one change: NONE is recorded", x.total(15), 2);
        x.undo();
        Checks.due("one change: undo()", x.undo(), 0);
        Checks.due("one change: no cards", x.total(0), 0);
        Checks.due("one change: no time", x.total(9), 0);
        Checks.write(x, "+1;z1;z1;a;a");
        Checks.due("one change: NONE goes on", x.perform(), 5);
    }

    private static void errors() {
        PocketCards x = Checks.pocketOf(1, 2);
        Checks.write(x, "w;f3;+3;-9;+1");
        Checks.due("errors: UNKNOWN of -", x.perform(), -1);
        Checks.dueTotals("errors: nothing", x, 0, 2, 2, 0, 0, 0, 0, 0, 0, 0, 0, 0, 1, 0, 1, 0, 2);
        Checks.write(x, "w;+1;-9");
        Checks.due("errors: NOT_POSSIBLE", x.perform(), -4);
        Checks.write(x, "z9;+1");
        Checks.due("errors: UNKNOWN of z", x.perform(), -1);
        Checks.write(x, "+1;!");
        Checks.due("errors: the fault comes first", x.perform(), -103);
        Checks.due("errors: time", x.total(9), 0);
        Checks.due("errors: states", x.total(15), 2);
        for (int i = 3; i <= 19; i++) {
            x.put(i);
        }
        Checks.write(x, "+100;+101");
        Checks.due("errors: FULL", x.perform(), -3);
        Checks.due("errors: FULL leaves all", x.total(0), 19);
        Checks.write(x, "+100;-1;+101");
        Checks.due("errors: room again", x.perform(), 3);
    }
}
