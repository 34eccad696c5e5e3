/** A reader that asks for the cards in a pocket, where several may answer at once. */
public final class PocketCards {
    public static final int UNKNOWN = -1;
    public static final int OUT_OF_RANGE = -2;
    public static final int FULL = -3;
    public static final int NOT_POSSIBLE = -4;
    public static final int NONE = -5;

    private static final int BITS = 8;
    private static final int GREATEST_NAME = 255;
    private static final int MOST_CARDS = 20;
    private static final int MOST_ASKS = 200;
    private static final int MOST_TOLD = 200;
    private static final int MOST_SLOTS = 64;
    private static final int MOST_FRAMES = 40;
    private static final int MOST_CHARACTERS = 60;
    private static final int MOST_ORDERS = 30;
    private static final int MOST_DIGITS = 3;
    private static final int MOST_STATES = 4;
    private static final int MOST_X = 2147483647;

    private static final int SILENCE = 300;
    private static final int CLASH = 400;
    private static final int FAULT = -100;

    private static final int NO_PLACE = -1;
    private static final int NO_SLOT = -1;
    private static final int NO_FAULT = -1;

    private static final int SETTINGS = 2;
    private static final int SETTING_SLEEP = 0;
    private static final int SETTING_SIZES = 1;

    private final State state = new State();
    /** Each change copies the state to here first: for the history, and to go back on an error. */
    private final State before = new State();
    /** Where it is tried what would be. */
    private final State trial = new State();
    private final State snapshot = new State();
    private boolean hasSnapshot = false;
    private final History history = new History();
    private final Text text = new Text();

    /** Creates an empty pocket. */
    public PocketCards() {
    }

    // ---- cards

    public int put(int name) {
        before.copyFrom(state);
        return recorded(state.putCard(name));
    }

    public int take(int name) {
        before.copyFrom(state);
        return recorded(state.takeCard(name));
    }

    public int sleep(int name) {
        before.copyFrom(state);
        return recorded(state.sleepCard(name));
    }

    public int wakeAll() {
        before.copyFrom(state);
        return recorded(state.wakeCards());
    }

    public int leave(int name, int asks) {
        before.copyFrom(state);
        return recorded(state.leaveBehind(name, asks));
    }

    public int set(int setting, int value) {
        before.copyFrom(state);
        return recorded(state.setTo(setting, value));
    }

    public int shuffle(int number) {
        before.copyFrom(state);
        return recorded(state.shuffleTo(number));
    }

    public int forget() {
        before.copyFrom(state);
        return recorded(state.forgetTold());
    }

    // ---- asking

    public int ask(int length, int bits) {
        if (!isBeginning(length, bits)) {
            return OUT_OF_RANGE;
        }
        before.copyFrom(state);
        return recorded(state.askFor(length, bits));
    }

    public int walk(boolean skips) {
        before.copyFrom(state);
        return recorded(state.makeWalk(skips));
    }

    public int frame(int slots) {
        before.copyFrom(state);
        return recorded(state.makeFrame(slots));
    }

    public int rounds(int slots) {
        before.copyFrom(state);
        return recorded(state.makeRounds(slots));
    }

    // ---- texts

    public int type(char character) {
        return text.append(character);
    }

    public int clearText() {
        return text.empty();
    }

    public int perform() {
        int fault = text.readOrders();
        if (fault != NO_FAULT) {
            return FAULT - fault;
        }
        before.copyFrom(state);
        int orders = text.orders();
        for (int i = 0; i < orders; i++) {
            int answer = state.carryOut(text.kindAt(i), text.numberAt(i));
            if (answer < 0 && answer != NONE) {
                state.copyFrom(before);
                return answer;
            }
        }
        return recorded(orders);
    }

    // ---- history

    public int undo() {
        return history.backTo(state);
    }

    public int keep() {
        snapshot.copyFrom(state);
        hasSnapshot = true;
        return state.pocket.cards();
    }

    public int restore() {
        if (!hasSnapshot) {
            return NONE;
        }
        before.copyFrom(state);
        state.copyFrom(snapshot);
        return recorded(state.pocket.cards());
    }

    // ---- what there is

    public int card(int rank) {
        if (rank < 0) {
            return OUT_OF_RANGE;
        }
        return rank < state.pocket.cards() ? state.pocket.nameAt(rank) : NONE;
    }

    public int ofCard(int name, int what) {
        Pocket pocket = state.pocket;
        int place = pocket.placeOf(name);
        if (place == NO_PLACE) {
            return UNKNOWN;
        }
        switch (what) {
            case 0:
                return pocket.isAwake(place) ? 1 : 0;
            case 1:
                return pocket.asksToGo(place);
            case 2:
                return pocket.tellings(place);
            case 3:
                return pocket.sharedBits(place);
            default:
                return OUT_OF_RANGE;
        }
    }

    public int told(int place) {
        if (place < 0) {
            return OUT_OF_RANGE;
        }
        return place < state.told.names() ? state.told.nameAt(place) : NONE;
    }

    public int total(int what) {
        switch (what) {
            case 0:
                return state.pocket.cards();
            case 1:
                return state.pocket.awakeCards();
            case 2:
                return state.pocket.leavingCards();
            case 3:
                return state.told.names();
            case 11:
                return state.valueOf(SETTING_SLEEP);
            case 12:
                return state.valueOf(SETTING_SIZES);
            case 13:
                return state.x;
            case 15:
                return history.states();
            case 16:
                return text.length();
            default:
                return state.tally.numberOf(what);
        }
    }

    public int count(int length, int bits) {
        return isBeginning(length, bits) ? state.pocket.awakeWith(length, bits) : OUT_OF_RANGE;
    }

    // ---- what would be; nothing changes

    public int walkTakes(boolean skips, int what) {
        if (what < 0 || what > 4) {
            return OUT_OF_RANGE;
        }
        trial.copyFrom(state);
        int told = trial.makeWalk(skips);
        switch (what) {
            case 0:
                return trial.tally.asks - state.tally.asks;
            case 1:
                return trial.tally.time - state.tally.time;
            case 2:
                return told;
            case 3:
                return trial.tally.clashes - state.tally.clashes;
            default:
                return trial.longest;
        }
    }

    public int roundsTake(int slots, int what) {
        if (!isFrameSize(slots) || what < 0 || what > 4) {
            return OUT_OF_RANGE;
        }
        trial.copyFrom(state);
        int frames = trial.makeRounds(slots);
        switch (what) {
            case 0:
                return frames;
            case 1:
                return trial.tally.time - state.tally.time;
            case 2:
                return trial.tally.names - state.tally.names;
            case 3:
                return trial.tally.clashes - state.tally.clashes;
            default:
                return trial.tally.slots - state.tally.slots;
        }
    }

    public int bestFrame() {
        int best = 0;
        int mostTold = 0;
        int leastTime = 0;
        for (int slots = 1; slots <= MOST_SLOTS; slots++) {
            trial.copyFrom(state);
            int told = trial.makeFrame(slots);
            int time = trial.tally.time - state.tally.time;
            if (best == 0 || told > mostTold || (told == mostTold && time < leastTime)) {
                best = slots;
                mostTold = told;
                leastTime = time;
            }
        }
        return best;
    }

    public int thickest(int length) {
        if (!isBeginning(length, 0)) {
            return OUT_OF_RANGE;
        }
        int thickest = NONE;
        int most = 0;
        for (int bits = 0; bits < (1 << length); bits++) {
            int cards = state.pocket.awakeWith(length, bits);
            if (cards > most) {
                thickest = bits;
                most = cards;
            }
        }
        return thickest;
    }

    /** The answer of a change; the state before it is recorded unless it is an error or NONE. */
    private int recorded(int answer) {
        if (answer >= 0) {
            history.add(before);
        }
        return answer;
    }

    private static boolean isBeginning(int length, int bits) {
        return length >= 0 && length <= BITS && bits >= 0 && bits < (1 << length);
    }

    private static boolean isFrameSize(int slots) {
        return slots >= 1 && slots <= MOST_SLOTS;
    }

    /** The number of a name's first bits. */
    private static int firstBits(int name, int length) {
        return length >= 0 && length <= BITS ? name >> (BITS - length) : 0;
    }

    /** The first bit that is 1; BITS if none is. */
    private static int firstOne(int bits) {
        int bit = 0;
        while (bit < BITS && (bits >> (BITS - 1 - bit)) == 0) {
            bit++;
        }
        return bit;
    }

    /** The state: everything except the text, the history and the snapshot. */
    private static final class State {
        final Pocket pocket = new Pocket();
        final Told told = new Told();
        final Tally tally = new Tally();
        private final int[] settings = new int[SETTINGS];
        int x = 1;
        /** The greatest length of a beginning that the latest walk asked for. */
        int longest = 0;
        /** The name of a card that was in the latest clash. */
        private int clashName = 0;

        State() {
            settings[SETTING_SLEEP] = 1;
        }

        /** The longest beginning and the clash's name are left out: a walk writes them first. */
        void copyFrom(State other) {
            if (other == null) {
                return;
            }
            pocket.copyFrom(other.pocket);
            told.copyFrom(other.told);
            tally.copyFrom(other.tally);
            System.arraycopy(other.settings, 0, settings, 0, SETTINGS);
            x = other.x;
        }

        int putCard(int name) {
            if (name < 0 || name > GREATEST_NAME) {
                return OUT_OF_RANGE;
            }
            if (pocket.placeOf(name) != NO_PLACE) {
                return NOT_POSSIBLE;
            }
            if (pocket.cards() >= MOST_CARDS) {
                return FULL;
            }
            pocket.insert(name);
            return pocket.cards();
        }

        int takeCard(int name) {
            int place = pocket.placeOf(name);
            if (place == NO_PLACE) {
                return UNKNOWN;
            }
            pocket.removeAt(place);
            return pocket.cards();
        }

        int sleepCard(int name) {
            int place = pocket.placeOf(name);
            if (place == NO_PLACE) {
                return UNKNOWN;
            }
            if (!pocket.isAwake(place)) {
                return NONE;
            }
            pocket.sleepAt(place);
            return pocket.awakeCards();
        }

        int wakeCards() {
            int asleep = pocket.cards() - pocket.awakeCards();
            if (asleep == 0) {
                return NONE;
            }
            pocket.wakeEach();
            return asleep;
        }

        int leaveBehind(int name, int asks) {
            int place = pocket.placeOf(name);
            if (place == NO_PLACE) {
                return UNKNOWN;
            }
            if (asks < 0 || asks > MOST_ASKS) {
                return OUT_OF_RANGE;
            }
            int previous = pocket.asksToGo(place);
            if (previous == asks) {
                return NONE;
            }
            pocket.leaveAt(place, asks);
            return previous;
        }

        int setTo(int setting, int value) {
            if (setting < 0 || setting >= SETTINGS) {
                return UNKNOWN;
            }
            int greatest = setting == SETTING_SLEEP ? 1 : 2;
            if (value < 0 || value > greatest) {
                return OUT_OF_RANGE;
            }
            int previous = settings[setting];
            if (previous == value) {
                return NONE;
            }
            settings[setting] = value;
            return previous;
        }

        int valueOf(int setting) {
            return setting >= 0 && setting < SETTINGS ? settings[setting] : 0;
        }

        int shuffleTo(int number) {
            if (number < 0) {
                return OUT_OF_RANGE;
            }
            int previous = x;
            if (previous == number) {
                return NONE;
            }
            x = number;
            return previous;
        }

        int forgetTold() {
            int names = told.names();
            if (names == 0) {
                return NONE;
            }
            told.empty();
            return names;
        }

        /** Asks for a beginning that is in range. */
        int askFor(int length, int bits) {
            pocket.letAnswer(length, bits);
            int answer = hear();
            tally.asks++;
            tally.time += 4 + length + (answer == SILENCE ? 2 : Math.max(1, BITS - length));
            tally.left += pocket.passAsk();
            return answer;
        }

        /** What those that answer are to the reader; a card that answers alone is told. */
        private int hear() {
            int first = pocket.firstAnswering();
            if (first == NO_PLACE) {
                tally.silences++;
                return SILENCE;
            }
            int name = pocket.nameAt(first);
            int differences = pocket.differencesFrom(name);
            if (differences != 0) {
                clashName = name;
                tally.clashes++;
                return CLASH + firstOne(differences);
            }
            tally.names++;
            told.add(name);
            pocket.tellAt(first);
            if (settings[SETTING_SLEEP] != 0) {
                pocket.sleepAt(first);
            }
            return name;
        }

        int makeWalk(boolean skips) {
            int names = tally.names;
            longest = 0;
            walkFrom(this, 0, 0, skips);
            return tally.names - names;
        }

        /** The length grows with each level, and no beginning is longer than a name. */
        private static void walkFrom(State state, int length, int bits, boolean skips) {
            if (state == null || !isBeginning(length, bits)) {
                return;
            }
            state.longest = Math.max(state.longest, length);
            int answer = state.askFor(length, bits);
            if (answer < CLASH) {
                return;
            }
            int stemLength = skips ? Math.max(length, answer - CLASH) : length;
            int stem = firstBits(state.clashName, stemLength);
            walkFrom(state, stemLength + 1, 2 * stem, skips);
            walkFrom(state, stemLength + 1, 2 * stem + 1, skips);
        }

        int makeFrame(int slots) {
            if (!isFrameSize(slots)) {
                return OUT_OF_RANGE;
            }
            int names = tally.names;
            tally.frames++;
            tally.time += 4;
            drawSlots(slots);
            for (int slot = 0; slot < slots; slot++) {
                pocket.letAnswerIn(slot);
                int answer = hear();
                tally.slots++;
                tally.time += answer == SILENCE ? 1 : 9;
                tally.left += pocket.passAsk();
            }
            return tally.names - names;
        }

        private void drawSlots(int slots) {
            int cards = pocket.cards();
            for (int place = 0; place < cards; place++) {
                pocket.slotAt(place, pocket.isAwake(place) ? draw(slots) : NO_SLOT);
            }
        }

        private int draw(int below) {
            if (below < 1) {
                return 0;
            }
            // The product may wrap around: the low 31 bits are right all the same.
            x = (x * 1103515245 + 12345) & MOST_X;
            return (x / 65536) % below;
        }

        int makeRounds(int slots) {
            if (!isFrameSize(slots)) {
                return OUT_OF_RANGE;
            }
            int size = slots;
            int frames = 0;
            boolean again = true;
            while (again && frames < MOST_FRAMES) {
                int clashes = tally.clashes;
                makeFrame(size);
                clashes = tally.clashes - clashes;
                size = nextSize(slots, size, clashes);
                frames++;
                again = clashes > 0;
            }
            return frames;
        }

        private int nextSize(int first, int latest, int clashes) {
            int size = first;
            if (settings[SETTING_SIZES] == 1) {
                size = 2 * clashes;
            } else if (settings[SETTING_SIZES] == 2) {
                if (2 * clashes > latest) {
                    size = 2 * latest;
                } else if (4 * clashes <= latest) {
                    size = latest / 2;
                } else {
                    size = latest;
                }
            }
            return Math.max(1, Math.min(MOST_SLOTS, size));
        }

        int carryOut(char kind, int number) {
            if (kind == '+') {
                return putCard(number);
            }
            if (kind == '-') {
                return takeCard(number);
            }
            if (kind == 'z') {
                return sleepCard(number);
            }
            if (kind == 'f') {
                return makeFrame(number);
            }
            if (kind == 'a') {
                return wakeCards();
            }
            return makeWalk(kind == 'v');
        }
    }

    /** The cards, by rising names: what the rows hold at one place is of one card. */
    private static final class Pocket {
        private final int[] names = new int[MOST_CARDS];
        private final int[] asksToGo = new int[MOST_CARDS];
        private final int[] tellings = new int[MOST_CARDS];
        private final int[] slots = new int[MOST_CARDS];
        private final boolean[] awake = new boolean[MOST_CARDS];
        private final boolean[] answering = new boolean[MOST_CARDS];
        private int cards = 0;

        /** Slots and those that answer are left out, as each frame and ask finds them anew. */
        void copyFrom(Pocket other) {
            if (other == null) {
                return;
            }
            cards = other.cards;
            for (int i = 0; i < cards && i < MOST_CARDS; i++) {
                names[i] = other.names[i];
                asksToGo[i] = other.asksToGo[i];
                tellings[i] = other.tellings[i];
                awake[i] = other.awake[i];
            }
        }

        int cards() {
            return cards;
        }

        private boolean isCard(int place) {
            return place >= 0 && place < cards && place < MOST_CARDS;
        }

        int placeOf(int name) {
            for (int i = 0; i < cards && i < MOST_CARDS; i++) {
                if (names[i] == name) {
                    return i;
                }
            }
            return NO_PLACE;
        }

        int nameAt(int place) {
            return isCard(place) ? names[place] : NONE;
        }

        boolean isAwake(int place) {
            return isCard(place) && awake[place];
        }

        int asksToGo(int place) {
            return isCard(place) ? asksToGo[place] : 0;
        }

        int tellings(int place) {
            return isCard(place) ? tellings[place] : 0;
        }

        /** How many first bits a card shares with the one that shares the most with it. */
        int sharedBits(int place) {
            if (!isCard(place)) {
                return NONE;
            }
            int most = NONE;
            for (int i = 0; i < cards && i < MOST_CARDS; i++) {
                if (i != place) {
                    most = Math.max(most, firstOne(names[i] ^ names[place]));
                }
            }
            return most;
        }

        int awakeCards() {
            return awakeWith(0, 0);
        }

        int awakeWith(int length, int bits) {
            int found = 0;
            for (int i = 0; i < cards && i < MOST_CARDS; i++) {
                if (awake[i] && firstBits(names[i], length) == bits) {
                    found++;
                }
            }
            return found;
        }

        int leavingCards() {
            int leaving = 0;
            for (int i = 0; i < cards && i < MOST_CARDS; i++) {
                if (asksToGo[i] > 0) {
                    leaving++;
                }
            }
            return leaving;
        }

        /** Puts in a card that is not there yet, awake. */
        void insert(int name) {
            if (cards < 0 || cards >= MOST_CARDS) {
                return;
            }
            int place = cards;
            while (place > 0 && names[place - 1] > name) {
                moveCard(place - 1, place);
                place--;
            }
            names[place] = name;
            asksToGo[place] = 0;
            tellings[place] = 0;
            slots[place] = NO_SLOT;
            awake[place] = true;
            cards++;
        }

        void removeAt(int place) {
            if (!isCard(place)) {
                return;
            }
            for (int i = place; i + 1 < cards && i + 1 < MOST_CARDS; i++) {
                moveCard(i + 1, i);
            }
            cards--;
        }

        private void moveCard(int from, int to) {
            if (from < 0 || from >= MOST_CARDS || to < 0 || to >= MOST_CARDS) {
                return;
            }
            names[to] = names[from];
            asksToGo[to] = asksToGo[from];
            tellings[to] = tellings[from];
            slots[to] = slots[from];
            awake[to] = awake[from];
        }

        void sleepAt(int place) {
            if (isCard(place)) {
                awake[place] = false;
            }
        }

        void wakeEach() {
            for (int i = 0; i < cards && i < MOST_CARDS; i++) {
                awake[i] = true;
            }
        }

        void leaveAt(int place, int asks) {
            if (isCard(place)) {
                asksToGo[place] = asks;
            }
        }

        void tellAt(int place) {
            if (isCard(place)) {
                tellings[place]++;
            }
        }

        void slotAt(int place, int slot) {
            if (isCard(place)) {
                slots[place] = slot;
            }
        }

        void letAnswer(int length, int bits) {
            for (int i = 0; i < cards && i < MOST_CARDS; i++) {
                answering[i] = awake[i] && firstBits(names[i], length) == bits;
            }
        }

        /** A card has one slot in a frame, so whether it sleeps since then makes no difference. */
        void letAnswerIn(int slot) {
            for (int i = 0; i < cards && i < MOST_CARDS; i++) {
                answering[i] = slots[i] == slot;
            }
        }

        int firstAnswering() {
            for (int i = 0; i < cards && i < MOST_CARDS; i++) {
                if (answering[i]) {
                    return i;
                }
            }
            return NO_PLACE;
        }

        /** The bits in which those that answer are not all like a name; 0 if it alone answers. */
        int differencesFrom(int name) {
            int differences = 0;
            for (int i = 0; i < cards && i < MOST_CARDS; i++) {
                if (answering[i]) {
                    differences |= names[i] ^ name;
                }
            }
            return differences;
        }

        /** Each card that is going to leave has one ask less to go; answers how many left. */
        int passAsk() {
            int kept = 0;
            int passed = 0;
            while (passed < cards && passed < MOST_CARDS) {
                int asks = asksToGo[passed];
                if (asks > 0) {
                    asksToGo[passed] = asks - 1;
                }
                if (asks != 1) {
                    if (kept < passed) {
                        moveCard(passed, kept);
                    }
                    kept++;
                }
                passed++;
            }
            cards = kept;
            return passed - kept;
        }
    }

    /** The latest names that were told, the oldest first. */
    private static final class Told {
        private final int[] row = new int[MOST_TOLD];
        private int names = 0;

        void copyFrom(Told other) {
            if (other == null) {
                return;
            }
            System.arraycopy(other.row, 0, row, 0, MOST_TOLD);
            names = other.names;
        }

        int names() {
            return names;
        }

        int nameAt(int place) {
            return place >= 0 && place < names && place < MOST_TOLD ? row[place] : NONE;
        }

        void add(int name) {
            if (names >= MOST_TOLD) {
                System.arraycopy(row, 1, row, 0, MOST_TOLD - 1);
                names = MOST_TOLD - 1;
            }
            if (names >= 0) {
                row[names] = name;
                names++;
            }
        }

        void empty() {
            names = 0;
        }
    }

    /** What is counted so far. */
    private static final class Tally {
        int asks = 0;
        int slots = 0;
        int silences = 0;
        int names = 0;
        int clashes = 0;
        int time = 0;
        int frames = 0;
        int left = 0;

        void copyFrom(Tally other) {
            if (other == null) {
                return;
            }
            asks = other.asks;
            slots = other.slots;
            silences = other.silences;
            names = other.names;
            clashes = other.clashes;
            time = other.time;
            frames = other.frames;
            left = other.left;
        }

        /** A number by what total() calls it. */
        int numberOf(int what) {
            switch (what) {
                case 4:
                    return asks;
                case 5:
                    return slots;
                case 6:
                    return silences;
                case 7:
                    return names;
                case 8:
                    return clashes;
                case 9:
                    return time;
                case 10:
                    return frames;
                case 14:
                    return left;
                default:
                    return OUT_OF_RANGE;
            }
        }
    }

    /** The latest states, the oldest first. */
    private static final class History {
        private final State[] rows = new State[MOST_STATES];
        private int states = 0;

        History() {
            for (int i = 0; i < MOST_STATES; i++) {
                rows[i] = new State();
            }
        }

        int states() {
            return states;
        }

        void add(State state) {
            if (states >= MOST_STATES) {
                dropOldest();
            }
            if (states >= 0 && states < MOST_STATES && rows[states] != null) {
                rows[states].copyFrom(state);
                states++;
            }
        }

        /** The row of the oldest state becomes the last one, to be written again. */
        private void dropOldest() {
            State oldest = rows[0];
            for (int i = 1; i < MOST_STATES; i++) {
                rows[i - 1] = rows[i];
            }
            rows[MOST_STATES - 1] = oldest;
            states = MOST_STATES - 1;
        }

        /** Restores the latest state and removes it; answers how many are left. */
        int backTo(State state) {
            if (state == null || states < 1 || states > MOST_STATES) {
                return NONE;
            }
            states--;
            state.copyFrom(rows[states]);
            return states;
        }
    }

    /** The text, and the orders that were read from it. */
    private static final class Text {
        private static final char END = (char) 0;

        private final char[] characters = new char[MOST_CHARACTERS];
        private int length = 0;
        private final char[] kinds = new char[MOST_ORDERS];
        private final int[] numbers = new int[MOST_ORDERS];
        private int orders = 0;
        /** How far it is read: where reading stops, this is the fault. */
        private int place = 0;
        private int number = 0;

        int length() {
            return length;
        }

        int append(char character) {
            if (length < 0 || length >= MOST_CHARACTERS) {
                return FULL;
            }
            characters[length] = character;
            length++;
            return length;
        }

        int empty() {
            int previous = length;
            length = 0;
            return previous;
        }

        int orders() {
            return orders;
        }

        char kindAt(int order) {
            return order >= 0 && order < MOST_ORDERS ? kinds[order] : END;
        }

        int numberAt(int order) {
            return order >= 0 && order < MOST_ORDERS ? numbers[order] : 0;
        }

        /** Reads all orders; answers the fault of the text, or NO_FAULT. */
        int readOrders() {
            orders = 0;
            place = 0;
            // Behind the ";" of the last order that there is room for, one more is missed.
            for (int read = 0; read <= MOST_ORDERS; read++) {
                if (!readOrder()) {
                    return place;
                }
                if (place >= length) {
                    return NO_FAULT;
                }
                if (characterAt(place) != ';') {
                    return place;
                }
                place++;
            }
            return place;
        }

        private boolean readOrder() {
            char kind = characterAt(place);
            boolean hasName = kind == '+' || kind == '-' || kind == 'z';
            boolean isFrame = kind == 'f';
            boolean isBare = kind == 'w' || kind == 'v' || kind == 'a';
            if (!hasName && !isFrame && !isBare) {
                return false;
            }
            place++;
            number = 0;
            if (hasName && !readNumber(0, GREATEST_NAME)) {
                return false;
            }
            if (isFrame && !readNumber(1, MOST_SLOTS)) {
                return false;
            }
            if (orders >= 0 && orders < MOST_ORDERS) {
                kinds[orders] = kind;
                numbers[orders] = number;
                orders++;
            }
            return true;
        }

        /** Reads a number, up to the first character that can't be a part of it. */
        private boolean readNumber(int least, int most) {
            int first = digitAt(place);
            if (first < 0 || first < least) {
                return false;
            }
            number = first;
            place++;
            for (int digits = 1; digits < MOST_DIGITS; digits++) {
                int digit = digitAt(place);
                if (digit < 0 || number == 0 || 10 * number + digit > most) {
                    break;
                }
                number = 10 * number + digit;
                place++;
            }
            return true;
        }

        private int digitAt(int index) {
            char character = characterAt(index);
            return character >= '0' && character <= '9' ? character - '0' : -1;
        }

        /** END is no character of an order, so one that was typed is refused just like the end. */
        private char characterAt(int index) {
            boolean isThere = index >= 0 && index < length && index < MOST_CHARACTERS;
            return isThere ? characters[index] : END;
        }
    }
}
