/** The sentences of 'TEXTS' and of the promises 14 to 16 that name a boundary case. */
public final class TextsBoundsTest {
    private static final String DIGITS = "0123456789";
    private static final String KINDS = "+-zwvfa";

    public static void main(String[] args) {
        type();
        typeAny();
        clearText();
        emptyText();
        oneOrMoreOrders();
        characters();
        numbers();
        zerosAhead();
        tooEarlyEnds();
        firstFault();
        fullTexts();
        eachOrder();
        allOrNone();
        firstError();
        noneIsNoError();
        oneChange();
        textStays();
        Checks.end("TextsBoundsTest");
    }

    private static void type() {
        Checks.sentence("Promise 14: returns the length of the text then; FULL if it has 60 characters");
        PocketCards x = new PocketCards();
        Checks.due("empty at first", x.total(16), 0);
        for (int i = 1; i <= 60; i++) {
            Checks.due("type the character " + i, x.type('w'), i);
            Checks.due("length", x.total(16), i);
        }
        Checks.due("type one more", x.type('w'), -3);
        Checks.due("type one more again", x.type(';'), -3);
        Checks.due("length", x.total(16), 60);
        Checks.due("clearText()", x.clearText(), 60);
        Checks.due("room again", x.type('w'), 1);
        Twins.unchanged("type into a full text", TextsBoundsTest::thirtyOrders, y -> y.type(';'), -3);
        Twins.unchanged("type a 0 into a full text", TextsBoundsTest::thirtyOrders, y -> y.type((char) 0), -3);
    }

    /** "w" at the places 0, 2 and so on up to 56, and "+9" as the last order: 60 characters. */
    private static void thirtyOrders(PocketCards x) {
        Pockets.mixed(x);
        Checks.write(x, "w;".repeat(29) + "+9");
    }

    private static void typeAny() {
        Checks.sentence("Promise 14: any character");
        PocketCards x = new PocketCards();
        int[] signs = {0, 1, 9, 10, 32, 127, 128, 255, 256, 0xD800, 0xDFFF, 0xFFFE, 0xFFFF};
        for (int i = 0; i < signs.length; i++) {
            Checks.due("type the sign " + signs[i], x.type((char) signs[i]), i + 1);
        }
        Checks.due("perform()", x.perform(), -100);
    }

    private static void clearText() {
        Checks.sentence("Promise 15: returns the length that it had");
        PocketCards x = new PocketCards();
        Checks.due("clearText() of nothing", x.clearText(), 0);
        for (int length : new int[] {1, 2, 59, 60}) {
            for (int i = 0; i < length; i++) {
                x.type('a');
            }
            Checks.due("clearText() of " + length, x.clearText(), length);
            Checks.due("clearText() again", x.clearText(), 0);
        }
        Checks.due("no change", x.total(15), 0);
        Checks.sentence("Promise 15: empties the text");
        Checks.write(x, "+5;+6");
        Checks.write(x, "+7");
        Checks.due("perform()", x.perform(), 1);
        Checks.dueCards("nothing of the earlier text", x, 7);
        Checks.write(x, "w;w");
        x.clearText();
        x.type('w');
        Checks.due("a shorter text", x.perform(), 1);
    }

    private static void emptyText() {
        Checks.sentence("TEXTS: (the empty text does)");
        Checks.due("perform() of a new object", new PocketCards().perform(), -100);
        Twins.unchanged("perform() of the empty text", x -> {
            Pockets.mixed(x);
            x.clearText();
        }, x -> x.perform(), -100);
    }

    private static void oneOrMoreOrders() {
        Checks.sentence("TEXTS: a list of one or more orders with \";\" between two");
        for (int orders = 1; orders <= 30; orders++) {
            PocketCards x = new PocketCards();
            String text = "w;".repeat(orders - 1) + "w";
            Checks.due("perform() of " + text, Checks.performed(x, text), orders);
            Checks.due("its asks", x.total(4), orders);
            Checks.due("one change", x.total(15), 1);
        }
        fault(";", 0);
        fault(";w", 0);
        fault("w;;w", 2);
        fault("w,w", 1);
        fault("w w", 1);
        fault("ww", 1);
        fault("w;", 2);
        fault("+1+2", 2);
    }

    private static void fault(String text, int index) {
        Twins.unchanged("perform() of " + text, x -> {
            Pockets.mixed(x);
            Checks.write(x, text);
        }, x -> x.perform(), -100 - index);
    }

    /** Every sign of all 65536 behind some beginnings of texts. */
    private static void characters() {
        Checks.sentence("TEXTS: the first character that is not allowed at its place");
        follows("", KINDS);
        for (String whole : new String[] {"w", "v", "a", "+0", "z0", "+26", "+30", "-99", "+100", "z255", "+199",
            "f7", "f9", "f10", "f64", "+12;w"}) {
            follows(whole, ";");
        }
        for (String kind : new String[] {"+", "-", "z", "w;+", "a;-"}) {
            follows(kind, DIGITS);
        }
        follows("f", "123456789");
        follows("w;f", "123456789");
        for (String name : new String[] {"+1", "-2", "z9", "+10", "-19", "z24", "+20"}) {
            follows(name, ";" + DIGITS);
        }
        follows("+25", ";012345");
        follows("z25", ";012345");
        follows("-25", ";012345");
        follows("f1", ";" + DIGITS);
        follows("f5", ";" + DIGITS);
        follows("f6", ";01234");
        follows("w;", KINDS);
        follows("+200;", KINDS);
        follows("f64;", KINDS);
    }

    private static void follows(String beginning, String allowed) {
        PocketCards x = new PocketCards();
        int calls = 0;
        for (int sign = 0; sign <= 65535; sign++) {
            if (calls > 450) {
                x = new PocketCards();
                calls = 0;
            }
            Checks.write(x, beginning + (char) sign);
            int answer = x.perform();
            calls += beginning.length() + 3;
            boolean isRefused = answer == -100 - beginning.length();
            Checks.due("'" + beginning + "' and the sign " + sign + " are refused there", isRefused ? 1 : 0,
                allowed.indexOf(sign) < 0 ? 1 : 0);
        }
    }

    private static void numbers() {
        for (int number = 0; number <= 1100; number++) {
            Checks.sentence("TEXTS: names are numbers from 0 to 255");
            Checks.sentence("TEXTS: a digit by which a number would be too great is not allowed");
            int wrong = firstTooGreat(number, 255);
            PocketCards x = new PocketCards();
            Checks.due("+" + number, Checks.performed(x, "+" + number), wrong < 0 ? 1 : -101 - wrong);
            Checks.due("its card", x.card(0), wrong < 0 ? number : -5);
            x.put(number);
            Checks.due("z" + number, Checks.performed(x, "z" + number), wrong < 0 ? 1 : -101 - wrong);
            Checks.due("it sleeps", x.ofCard(number, 0), wrong < 0 ? 0 : -1);
            Checks.due("-" + number, Checks.performed(x, "-" + number), wrong < 0 ? 1 : -101 - wrong);
            Checks.due("it is taken out", x.total(0), 0);
            Checks.sentence("TEXTS: \"f\" and a number from 1 to 64");
            wrong = number == 0 ? 0 : firstTooGreat(number, 64);
            Checks.due("f" + number, Checks.performed(x, "f" + number), wrong < 0 ? 1 : -101 - wrong);
            Checks.due("its slots", x.total(5), wrong < 0 ? number : 0);
        }
    }

    /** The place of the first digit by which a number is greater than the most; -1 if there is none. */
    private static int firstTooGreat(int number, int most) {
        String digits = Integer.toString(number);
        for (int i = 0; i < digits.length(); i++) {
            if (Integer.parseInt(digits.substring(0, i + 1)) > most) {
                return i;
            }
        }
        return -1;
    }

    private static void zerosAhead() {
        Checks.sentence("TEXTS: numbers have no zeros ahead of other digits");
        for (String kind : new String[] {"+", "-", "z"}) {
            for (String number : new String[] {"00", "01", "07", "000", "0255", "010"}) {
                fault(kind + number, 2);
            }
        }
        for (String number : new String[] {"0", "00", "01", "064", "010"}) {
            fault("f" + number, 1);
        }
        PocketCards x = new PocketCards();
        Checks.due("+0;+10;+100;+200", Checks.performed(x, "+0;+10;+100;+200"), 4);
        Checks.dueCards("a zero alone and behind other digits", x, 0, 10, 100, 200);
        Checks.due("f10;f60", Checks.performed(x, "f10;f60"), 2);
        Checks.due("slots", x.total(5), 70);
    }

    private static void tooEarlyEnds() {
        Checks.sentence("TEXTS: or the length of the text if it ends too early");
        String[] texts = {"+", "-", "z", "f", "w;", "v;", "a;", "+1;", "-10;", "z77;", "f64;", "w;+", "w;-", "a;z",
            "+1;+2;f", "w;w;w;"};
        for (String text : texts) {
            fault(text, text.length());
        }
        fault("w;".repeat(30), 60);
        fault("+11;".repeat(14) + "+11;", 60);
        fault("w;".repeat(29) + "w+", 59);
        fault("a;v" + ";w".repeat(28) + ";", 60);
        fault("+12;".repeat(14) + "a;w;", 60);
        fault("+12;".repeat(14) + "v;a+", 59);
        fault("w;".repeat(29) + "a;", 60);
        fault("aw;" + "w;".repeat(28) + "+", 1);
        fault("f1;".repeat(19) + "a;+", 60);
        fault("f1;".repeat(19) + "a;f", 60);
        fault("f1;".repeat(19) + "a;z", 60);
    }

    private static void firstFault() {
        Checks.sentence("TEXTS: the fault is the index, from 0, of the first character that is not allowed");
        fault("x", 0);
        fault("xx", 0);
        fault("+1;x;y", 3);
        fault("+256;x", 3);
        fault("+1;+07;+300", 5);
        fault("w;W", 2);
        fault("A", 0);
        fault("Z1", 0);
        fault("F1", 0);
        fault("1", 0);
        fault(" w", 0);
        fault("w ", 1);
        fault("+ 1", 1);
        fault("+1 ", 2);
        fault("w\n", 1);
        fault("w1", 1);
        fault("a0", 1);
        fault("++1", 1);
        fault("+-1", 1);
        fault("f+1", 1);
        fault("f1.5", 2);
        for (int place = 0; place < 60; place += 2) {
            String text = "w;".repeat(29) + "w";
            fault(text.substring(0, place) + "?" + text.substring(place + 1), place);
        }
        for (int place = 1; place < 59; place += 2) {
            String text = "w;".repeat(29) + "w";
            fault(text.substring(0, place) + "?" + text.substring(place + 1), place);
        }
    }

    private static void fullTexts() {
        Checks.sentence("TEXTS: a text of at most 60 characters");
        String[] texts = {"w;".repeat(28) + "w;+1", "+10;-10;".repeat(7) + "+200", "f1;".repeat(19) + "f64",
            "w;" + "f1;".repeat(18) + "+255"};
        int[] orders = {30, 15, 20, 20};
        for (int i = 0; i < texts.length; i++) {
            PocketCards x = new PocketCards();
            Checks.write(x, texts[i]);
            Checks.due("length of " + texts[i], x.total(16), 60);
            Checks.due("perform() of " + texts[i], x.perform(), orders[i]);
        }
    }

    private static void eachOrder() {
        Checks.sentence("TEXTS: \"+\", \"-\", \"z\", \"w\", \"v\", \"f\", \"a\"");
        String[] texts = {"+5", "-20", "z30", "w", "v", "f7", "a"};
        for (int i = 0; i < texts.length; i++) {
            PocketCards x = new PocketCards();
            PocketCards y = new PocketCards();
            Pockets.mixed(x);
            Pockets.mixed(y);
            Checks.due("perform() of " + texts[i], Checks.performed(x, texts[i]), 1);
            Checks.write(y, texts[i]);
            byHand(y, i);
            Checks.due(texts[i] + " is like its call", Twins.everything(x).equals(Twins.everything(y)) ? 1 : 0, 1);
        }
    }

    private static void byHand(PocketCards x, int order) {
        switch (order) {
            case 0 -> x.put(5);
            case 1 -> x.take(20);
            case 2 -> x.sleep(30);
            case 3 -> x.walk(false);
            case 4 -> x.walk(true);
            case 5 -> x.frame(7);
            default -> x.wakeAll();
        }
    }

    private static void allOrNone() {
        Checks.sentence("Promise 16: all of them, or none if one of them returns an error");
        String[] orders = {"+5", "-20", "z30", "w", "v", "f7", "a", "-10", "f64", "a;w"};
        for (String order : orders) {
            refused(order + ";+30", -4);
            refused(order + ";-99", -1);
            refused(order + ";z99", -1);
        }
        refused("+5;-20;a;z30;w;v;f7;a;+11;-12", -1);
        refused("+5;+5", -4);
        refused("-20;-20", -1);
        refused("-20;z20", -1);
        Twins.unchanged("FULL at the end", x -> {
            Pockets.full(x);
            Checks.write(x, "-0;f9;w;+1;+2");
        }, x -> x.perform(), -3);
        Twins.unchanged("FULL at the beginning", x -> {
            Pockets.full(x);
            Checks.write(x, "+1;-0;a");
        }, x -> x.perform(), -3);
        Twins.unchanged("a card that left by a walk", x -> {
            Pockets.mixed(x);
            x.leave(20, 1);
            Checks.write(x, "w;-20");
        }, x -> x.perform(), -1);
        PocketCards y = Pockets.ofSize(20);
        Checks.due("room is made first", Checks.performed(y, "-0;+1;-10;+0"), 4);
        Checks.due("as many cards", y.total(0), 20);
    }

    private static void refused(String text, int answer) {
        Twins.unchanged("perform() of " + text, x -> {
            Pockets.mixed(x);
            Checks.write(x, text);
        }, x -> x.perform(), answer);
    }

    private static void firstError() {
        Checks.sentence("Promise 16: otherwise the error of the first order that returns one");
        refused("+30;-99", -4);
        refused("-99;+30", -1);
        refused("z99;+30", -1);
        refused("w;+10;z99", -4);
        Twins.unchanged("FULL, then UNKNOWN", x -> {
            Pockets.full(x);
            Checks.write(x, "+1;-99");
        }, x -> x.perform(), -3);
        Twins.unchanged("UNKNOWN, then FULL", x -> {
            Pockets.full(x);
            Checks.write(x, "-99;+1");
        }, x -> x.perform(), -1);
        Twins.unchanged("NOT_POSSIBLE stands ahead of FULL", x -> {
            Pockets.full(x);
            Checks.write(x, "+10");
        }, x -> x.perform(), -4);
        Checks.sentence("Promise 16: -100 minus the fault stands ahead of the errors of the orders");
        refused("+30;!", -104);
        refused("-99;", -104);
        refused("z99;+256", -107);
    }

    private static void noneIsNoError() {
        Checks.sentence("Promise 16: an order that returns NONE does nothing, and is no error");
        PocketCards x = new PocketCards();
        Pockets.mixed(x);
        Checks.due("z of a sleeper", Checks.performed(x, "z77;+1"), 2);
        Checks.due("the next one is carried out", x.card(0), 1);
        Checks.due("at the end too", Checks.performed(x, "-1;z77"), 2);
        Checks.due("a that wakes", Checks.performed(x, "a;a;+2;a"), 4);
        Checks.due("all awake", x.total(1), 5);
        Checks.due("z twice", Checks.performed(x, "z2;z2;z2"), 3);
        Checks.due("one asleep", x.total(1), 4);
        PocketCards y = new PocketCards();
        Checks.due("a in an empty pocket", Checks.performed(y, "a"), 1);
        Checks.due("walks and frames of nobody", Checks.performed(y, "w;v;f1"), 3);
    }

    private static void oneChange() {
        Checks.sentence("Promise 16: this is one change, also if each order returns NONE");
        PocketCards x = Checks.pocketOf(1);
        x.sleep(1);
        Checks.due("NONE alone", Checks.performed(x, "z1"), 1);
        Checks.due("one state more", x.total(15), 3);
        Checks.due("NONE three times", Checks.performed(x, "z1;z1;z1"), 3);
        Checks.due("one state more again", x.total(15), 4);
        Checks.due("undo()", x.undo(), 3);
        Checks.due("it sleeps as before", x.ofCard(1, 0), 0);
        Checks.due("undo() again", x.undo(), 2);
        Checks.due("undo() of the sleep", x.undo(), 1);
        Checks.due("it is awake", x.ofCard(1, 0), 1);
        PocketCards y = new PocketCards();
        Checks.due("many orders", Checks.performed(y, "+1;+2;+3;+4;+5;w;a;v;f9"), 9);
        Checks.due("one state", y.total(15), 1);
        Checks.due("undo() of all", y.undo(), 0);
        Checks.due("a new state", Twins.stateOf(y).equals(Twins.stateOf(new PocketCards())) ? 1 : 0, 1);
    }

    private static void textStays() {
        Checks.sentence("Promise 16: carries out the orders of the text, which stays");
        PocketCards x = new PocketCards();
        Checks.write(x, "+9;-9;w");
        for (int i = 1; i <= 3; i++) {
            Checks.due("perform()", x.perform(), 3);
            Checks.due("length", x.total(16), 7);
            Checks.due("asks", x.total(4), i);
        }
        x.type(';');
        Checks.due("it goes on", x.perform(), -108);
        Checks.due("a fault leaves it too", x.type('v'), 9);
        Checks.due("and is mended", x.perform(), 4);
        Checks.write(x, "-9");
        Checks.due("an error", x.perform(), -1);
        Checks.due("leaves it too", x.total(16), 2);
    }
}
