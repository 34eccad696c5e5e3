import java.math.BigInteger;
import java.util.ArrayList;
import java.util.Arrays;
import java.util.Deque;
import java.util.LinkedList;
import java.util.List;
import java.util.TreeMap;
import java.util.regex.Matcher;
import java.util.regex.Pattern;

/** The document said once more, as plainly as the whole Java library allows, with names as texts of bits. */
final class PlainModel {
    private static final String NAME = "(?:0|[1-9][0-9]?|1[0-9][0-9]|2[0-4][0-9]|25[0-5])";
    private static final String ORDER = "(?:[-+z]" + NAME + "|[wva]|f(?:[1-9]|[1-5][0-9]|6[0-4]))";
    private static final Pattern ORDERS = Pattern.compile(ORDER + "(?:;" + ORDER + ")*");

    private static final class Card {
        boolean awake = true;
        int asks = 0;
        int tellings = 0;

        Card copy() {
            Card card = new Card();
            card.awake = awake;
            card.asks = asks;
            card.tellings = tellings;
            return card;
        }
    }

    private static final class World {
        TreeMap<Integer, Card> cards = new TreeMap<>();
        LinkedList<Integer> told = new LinkedList<>();
        /** By the numbers of total(): 4 to 10 and 14. */
        long[] counts = new long[15];
        int[] settings = {1, 0};
        BigInteger x = BigInteger.ONE;

        World copy() {
            World world = new World();
            cards.forEach((name, card) -> world.cards.put(name, card.copy()));
            world.told.addAll(told);
            world.counts = counts.clone();
            world.settings = settings.clone();
            world.x = x;
            return world;
        }

        long awake() {
            return cards.values().stream().filter(card -> card.awake).count();
        }

        List<Integer> awakeWith(String beginning) {
            List<Integer> names = new ArrayList<>();
            cards.forEach((name, card) -> {
                if (card.awake && bitsOf(name, 8).startsWith(beginning)) {
                    names.add(name);
                }
            });
            return names;
        }

        int answer(List<Integer> names) {
            if (names.isEmpty()) {
                counts[6]++;
                return 300;
            }
            if (names.size() > 1) {
                counts[8]++;
                return 400 + common(names).length();
            }
            int name = names.get(0);
            counts[7]++;
            told.addLast(name);
            while (told.size() > 200) {
                told.removeFirst();
            }
            cards.get(name).tellings++;
            if (settings[0] == 1) {
                cards.get(name).awake = false;
            }
            return name;
        }

        void pass() {
            int size = cards.size();
            cards.values().removeIf(card -> card.asks > 0 && --card.asks == 0);
            counts[14] += size - cards.size();
        }

        int ask(String beginning) {
            int answer = answer(awakeWith(beginning));
            counts[4]++;
            counts[9] += 4 + beginning.length();
            counts[9] += answer == 300 ? 2 : beginning.length() == 8 ? 1 : 8 - beginning.length();
            pass();
            return answer;
        }

        /** Answers the greatest length that was asked. */
        int walk(String beginning, boolean skips) {
            List<Integer> names = awakeWith(beginning);
            ask(beginning);
            if (names.size() < 2) {
                return beginning.length();
            }
            String stem = skips ? common(names) : beginning;
            int zero = walk(stem + "0", skips);
            int one = walk(stem + "1", skips);
            return Math.max(zero, one);
        }

        int frame(int slots) {
            long names = counts[7];
            counts[10]++;
            counts[9] += 4;
            List<List<Integer>> rows = new ArrayList<>();
            for (int i = 0; i < slots; i++) {
                rows.add(new ArrayList<>());
            }
            for (int name : awakeWith("")) {
                x = x.multiply(BigInteger.valueOf(1103515245)).add(BigInteger.valueOf(12345));
                x = x.mod(BigInteger.valueOf(2147483648L));
                rows.get(x.intValueExact() / 65536 % slots).add(name);
            }
            for (List<Integer> row : rows) {
                row.removeIf(name -> !cards.containsKey(name));
                counts[9] += answer(row) == 300 ? 1 : 9;
                counts[5]++;
                pass();
            }
            return (int) (counts[7] - names);
        }

        int rounds(int first) {
            int size = first;
            for (int frames = 1; ; frames++) {
                long before = counts[8];
                frame(size);
                long clashes = counts[8] - before;
                if (clashes == 0 || frames == 40) {
                    return frames;
                }
                if (settings[1] == 1) {
                    size = (int) (2 * clashes);
                } else if (settings[1] == 2) {
                    double part = (double) clashes / size;
                    size = part > 0.5 ? 2 * size : part <= 0.25 ? size / 2 : size;
                }
                size = Math.min(64, Math.max(1, size));
            }
        }
    }

    private World world = new World();
    private World snapshot = null;
    private final Deque<World> history = new LinkedList<>();
    private String text = "";

    private static String bitsOf(int number, int length) {
        StringBuilder bits = new StringBuilder(Integer.toBinaryString(number));
        while (bits.length() < length) {
            bits.insert(0, '0');
        }
        return length == 0 ? "" : bits.toString();
    }

    private static String common(List<Integer> names) {
        String common = bitsOf(names.get(0), 8);
        for (int name : names) {
            while (!bitsOf(name, 8).startsWith(common)) {
                common = common.substring(0, common.length() - 1);
            }
        }
        return common;
    }

    private static boolean isBeginning(int length, int bits) {
        return length >= 0 && length <= 8 && bits >= 0 && bits < Math.pow(2, length);
    }

    private int change(World before, int answer) {
        if (answer < 0) {
            world = before;
        } else {
            history.addLast(before);
            if (history.size() > 4) {
                history.removeFirst();
            }
        }
        return answer;
    }

    private int plainPut(int name) {
        if (name < 0 || name > 255) {
            return -2;
        }
        if (world.cards.containsKey(name)) {
            return -4;
        }
        if (world.cards.size() == 20) {
            return -3;
        }
        world.cards.put(name, new Card());
        return world.cards.size();
    }

    private int plainTake(int name) {
        return world.cards.remove(name) == null ? -1 : world.cards.size();
    }

    private int plainSleep(int name) {
        Card card = world.cards.get(name);
        if (card == null) {
            return -1;
        }
        if (!card.awake) {
            return -5;
        }
        card.awake = false;
        return (int) world.awake();
    }

    private int plainWakeAll() {
        int asleep = (int) (world.cards.size() - world.awake());
        world.cards.values().forEach(card -> card.awake = true);
        return asleep == 0 ? -5 : asleep;
    }

    private int plainWalk(boolean skips) {
        long names = world.counts[7];
        world.walk("", skips);
        return (int) (world.counts[7] - names);
    }

    int put(int name) {
        return change(world.copy(), plainPut(name));
    }

    int take(int name) {
        return change(world.copy(), plainTake(name));
    }

    int sleep(int name) {
        return change(world.copy(), plainSleep(name));
    }

    int wakeAll() {
        return change(world.copy(), plainWakeAll());
    }

    int leave(int name, int asks) {
        if (!world.cards.containsKey(name)) {
            return -1;
        }
        if (asks < 0 || asks > 200) {
            return -2;
        }
        World before = world.copy();
        int previous = world.cards.get(name).asks;
        world.cards.get(name).asks = asks;
        return change(before, previous == asks ? -5 : previous);
    }

    int set(int setting, int value) {
        if (setting != 0 && setting != 1) {
            return -1;
        }
        if (value < 0 || value > setting + 1) {
            return -2;
        }
        World before = world.copy();
        int previous = world.settings[setting];
        world.settings[setting] = value;
        return change(before, previous == value ? -5 : previous);
    }

    int shuffle(int number) {
        if (number < 0) {
            return -2;
        }
        World before = world.copy();
        int previous = world.x.intValueExact();
        world.x = BigInteger.valueOf(number);
        return change(before, previous == number ? -5 : previous);
    }

    int forget() {
        World before = world.copy();
        int names = world.told.size();
        world.told.clear();
        return change(before, names == 0 ? -5 : names);
    }

    int ask(int length, int bits) {
        return isBeginning(length, bits) ? change(world.copy(), world.ask(bitsOf(bits, length))) : -2;
    }

    int walk(boolean skips) {
        return change(world.copy(), plainWalk(skips));
    }

    int frame(int slots) {
        return slots < 1 || slots > 64 ? -2 : change(world.copy(), world.frame(slots));
    }

    int rounds(int slots) {
        return slots < 1 || slots > 64 ? -2 : change(world.copy(), world.rounds(slots));
    }

    int type(char character) {
        if (text.length() == 60) {
            return -3;
        }
        text += character;
        return text.length();
    }

    int clearText() {
        int length = text.length();
        text = "";
        return length;
    }

    int perform() {
        if (!ORDERS.matcher(text).matches()) {
            int fault = 0;
            while (fault < text.length() && canGoOn(text.substring(0, fault + 1))) {
                fault++;
            }
            return -100 - fault;
        }
        World before = world.copy();
        String[] orders = text.split(";");
        for (String order : orders) {
            int answer = perform(order.charAt(0), order.length() == 1 ? 0 : Integer.parseInt(order.substring(1)));
            if (answer < 0 && answer != -5) {
                return change(before, answer);
            }
        }
        return change(before, orders.length);
    }

    private static boolean canGoOn(String beginning) {
        Matcher matcher = ORDERS.matcher(beginning);
        return matcher.matches() || matcher.hitEnd();
    }

    private int perform(char kind, int number) {
        return switch (kind) {
            case '+' -> plainPut(number);
            case '-' -> plainTake(number);
            case 'z' -> plainSleep(number);
            case 'w' -> plainWalk(false);
            case 'v' -> plainWalk(true);
            case 'f' -> world.frame(number);
            default -> plainWakeAll();
        };
    }

    int undo() {
        if (history.isEmpty()) {
            return -5;
        }
        world = history.removeLast();
        return history.size();
    }

    int keep() {
        snapshot = world.copy();
        return world.cards.size();
    }

    int restore() {
        if (snapshot == null) {
            return -5;
        }
        World before = world;
        world = snapshot.copy();
        return change(before, world.cards.size());
    }

    int card(int rank) {
        if (rank < 0) {
            return -2;
        }
        return rank < world.cards.size() ? new ArrayList<>(world.cards.keySet()).get(rank) : -5;
    }

    int ofCard(int name, int what) {
        Card card = world.cards.get(name);
        if (card == null) {
            return -1;
        }
        return switch (what) {
            case 0 -> card.awake ? 1 : 0;
            case 1 -> card.asks;
            case 2 -> card.tellings;
            case 3 -> world.cards.keySet().stream().filter(other -> other != name)
                .mapToInt(other -> common(Arrays.asList(name, other)).length()).max().orElse(-5);
            default -> -2;
        };
    }

    int told(int place) {
        return place < 0 ? -2 : place < world.told.size() ? world.told.get(place) : -5;
    }

    int total(int what) {
        return switch (what) {
            case 0 -> world.cards.size();
            case 1 -> (int) world.awake();
            case 2 -> (int) world.cards.values().stream().filter(card -> card.asks > 0).count();
            case 3 -> world.told.size();
            case 4, 5, 6, 7, 8, 9, 10, 14 -> (int) world.counts[what];
            case 11, 12 -> world.settings[what - 11];
            case 13 -> world.x.intValueExact();
            case 15 -> history.size();
            case 16 -> text.length();
            default -> -2;
        };
    }

    int count(int length, int bits) {
        return isBeginning(length, bits) ? world.awakeWith(bitsOf(bits, length)).size() : -2;
    }

    int walkTakes(boolean skips, int what) {
        if (what < 0 || what > 4) {
            return -2;
        }
        World trial = world.copy();
        int longest = trial.walk("", skips);
        return what == 4 ? longest : grown(trial, new int[] {4, 9, 7, 8}[what]);
    }

    int roundsTake(int slots, int what) {
        if (slots < 1 || slots > 64 || what < 0 || what > 4) {
            return -2;
        }
        World trial = world.copy();
        trial.rounds(slots);
        return grown(trial, new int[] {10, 9, 7, 8, 5}[what]);
    }

    private int grown(World trial, int what) {
        return (int) (trial.counts[what] - world.counts[what]);
    }

    int bestFrame() {
        int best = 0;
        long mark = Long.MIN_VALUE;
        for (int slots = 1; slots <= 64; slots++) {
            World trial = world.copy();
            long told = trial.frame(slots);
            long ofThis = told * 1000000 - grown(trial, 9) * 1000L - slots;
            if (ofThis > mark) {
                best = slots;
                mark = ofThis;
            }
        }
        return best;
    }

    int thickest(int length) {
        if (length < 0 || length > 8) {
            return -2;
        }
        if (world.awake() == 0) {
            return -5;
        }
        int best = 0;
        for (int bits = 1; bits < 1 << length; bits++) {
            if (count(length, bits) > count(length, best)) {
                best = bits;
            }
        }
        return best;
    }
}
