import java.util.Random;

/** Long runs of calls by lot, each answer compared with that of the plain model. */
public final class ModelTest {
    private static final int RUNS = 4000;
    /** The document says nothing of what comes behind this call. */
    private static final int LAST_CALL = 512;
    /** More than one step of a run and one look at all take. */
    private static final int CALLS_OF_A_STEP = 64;
    private static final String SIGNS = "+-zwvfa;0123456789 x";
    private static final String[] ORDERS = {"+", "+", "-", "z", "w", "v", "f", "a"};

    private final Random lot;
    private final PocketCards x = new PocketCards();
    private final PlainModel y = new PlainModel();
    private final String run;
    /** Few names in a run make cards meet more often. */
    private final int names;
    private int calls = 0;

    private ModelTest(int run) {
        this.run = "run " + run + ": ";
        lot = new Random(run);
        names = new int[] {6, 24, 64, 256}[run % 4];
    }

    public static void main(String[] args) {
        for (int run = 0; run < RUNS; run++) {
            ModelTest test = new ModelTest(run);
            while (test.calls < LAST_CALL - 2 * CALLS_OF_A_STEP) {
                test.callOne();
                if (test.lot.nextInt(30) == 0) {
                    test.lookAtAll();
                }
            }
            test.lookAtAll();
            Checks.due("run " + run + " ends in time", test.calls <= LAST_CALL ? 1 : 0, 1);
        }
        Checks.end("ModelTest");
    }

    /** Each answer that is compared is that of one call. */
    private void due(String call, int got, int want) {
        calls++;
        Checks.due(run + call, got, want);
    }

    /** Now and then out of the range from least to most. */
    private int near(int least, int most) {
        int chance = lot.nextInt(40);
        if (chance == 0) {
            return least - 1;
        }
        if (chance == 1) {
            return most + 1;
        }
        if (chance == 2) {
            return lot.nextInt();
        }
        return least + lot.nextInt(most - least + 1);
    }

    private int name() {
        int chance = lot.nextInt(20);
        if (chance == 0) {
            return near(0, 255);
        }
        if (chance < 8 && y.total(0) > 0) {
            return y.card(lot.nextInt(y.total(0)));
        }
        return lot.nextInt(names);
    }

    private int bits(int length) {
        return near(0, (1 << Math.max(0, Math.min(8, length))) - 1);
    }

    private void callOne() {
        int kind = lot.nextInt(100);
        if (kind < 45) {
            callCards(kind);
        } else if (kind < 67) {
            callAsking(kind);
        } else if (kind < 85) {
            callTexts();
        } else {
            callHistory(kind);
        }
        if (lot.nextInt(4) == 0) {
            callWhatWouldBe();
        }
    }

    private void callCards(int kind) {
        int name = name();
        if (kind < 22) {
            due("put(" + name + ")", x.put(name), y.put(name));
        } else if (kind < 24) {
            due("take(" + name + ")", x.take(name), y.take(name));
        } else if (kind < 28) {
            due("sleep(" + name + ")", x.sleep(name), y.sleep(name));
        } else if (kind < 34) {
            due("wakeAll()", x.wakeAll(), y.wakeAll());
        } else if (kind < 39) {
            int asks = lot.nextInt(3) == 0 ? near(0, 200) : lot.nextInt(30);
            due("leave(" + name + ", " + asks + ")", x.leave(name, asks), y.leave(name, asks));
        } else if (kind < 43) {
            int setting = near(0, 1);
            int value = near(0, 2);
            due("set(" + setting + ", " + value + ")", x.set(setting, value), y.set(setting, value));
        } else if (kind < 44) {
            int number = lot.nextInt(3) == 0 ? y.total(13) : near(0, 100);
            due("shuffle(" + number + ")", x.shuffle(number), y.shuffle(number));
        } else if (lot.nextInt(3) == 0) {
            due("forget()", x.forget(), y.forget());
        }
    }

    private void callAsking(int kind) {
        int slots = lot.nextBoolean() ? near(1, 12) : near(1, 64);
        boolean skips = lot.nextBoolean();
        if (kind < 57) {
            int length = near(0, 8);
            int bits = bits(length);
            due("ask(" + length + ", " + bits + ")", x.ask(length, bits), y.ask(length, bits));
        } else if (kind < 60) {
            due("walk(" + skips + ")", x.walk(skips), y.walk(skips));
        } else if (kind < 64) {
            due("frame(" + slots + ")", x.frame(slots), y.frame(slots));
        } else {
            due("rounds(" + slots + ")", x.rounds(slots), y.rounds(slots));
        }
    }

    private void callTexts() {
        int kind = lot.nextInt(12);
        if (kind < 5) {
            due("perform()", x.perform(), y.perform());
        } else if (kind < 8) {
            due("clearText()", x.clearText(), y.clearText());
        } else if (kind < 10) {
            String order = ORDERS[lot.nextInt(ORDERS.length)];
            int most = order.equals("f") ? 64 : names - 1;
            boolean isBare = "wva".contains(order);
            type((y.total(16) == 0 ? "" : ";") + order + (isBare ? "" : Integer.toString(near(1, most))));
        } else {
            type(String.valueOf(SIGNS.charAt(lot.nextInt(SIGNS.length()))));
        }
    }

    private void type(String signs) {
        for (char sign : signs.toCharArray()) {
            due("type(" + sign + ")", x.type(sign), y.type(sign));
        }
    }

    private void callHistory(int kind) {
        if (kind < 95) {
            due("undo()", x.undo(), y.undo());
        } else if (kind < 97) {
            due("keep()", x.keep(), y.keep());
        } else {
            due("restore()", x.restore(), y.restore());
        }
    }

    private void callWhatWouldBe() {
        int what = near(0, 4);
        int slots = lot.nextBoolean() ? near(1, 12) : near(1, 64);
        boolean skips = lot.nextBoolean();
        due("walkTakes(" + skips + ", " + what + ")", x.walkTakes(skips, what), y.walkTakes(skips, what));
        due("roundsTake(" + slots + ", " + what + ")", x.roundsTake(slots, what), y.roundsTake(slots, what));
        if (lot.nextInt(4) == 0) {
            due("bestFrame()", x.bestFrame(), y.bestFrame());
        }
        int length = near(0, 8);
        if (lot.nextInt(4) == 0) {
            due("thickest(" + length + ")", x.thickest(length), y.thickest(length));
        }
        int bits = bits(length);
        due("count(" + length + ", " + bits + ")", x.count(length, bits), y.count(length, bits));
    }

    private void lookAtAll() {
        for (int what = -1; what <= 17; what++) {
            due("total(" + what + ")", x.total(what), y.total(what));
        }
        for (int rank = -1; rank <= y.total(0); rank++) {
            due("card(" + rank + ")", x.card(rank), y.card(rank));
        }
        int name = name();
        for (int what = -1; what <= 4; what++) {
            due("ofCard(" + name + ", " + what + ")", x.ofCard(name, what), y.ofCard(name, what));
        }
        int place = near(0, Math.max(1, y.total(3)));
        due("told(" + place + ")", x.told(place), y.told(place));
        due("told(" + (y.total(3) - 1) + ")", x.told(y.total(3) - 1), y.told(y.total(3) - 1));
    }
}
