/**
 * Summaries of streams of letters that have fewer counters than there are letters.
 * What each call promises is said in DOC.md, by the same names.
 *
 * All rows are made with the object and used again: no call makes an object or an array.
 */
public final class FloorTops {
    public static final int UNKNOWN = -1;
    public static final int BAD_VALUE = -2;
    public static final int FULL = -3;
    public static final int NOT_POSSIBLE = -4;
    public static final int NONE = -5;

    private static final int LETTERS = 26;
    private static final int SUMMARIES = 4;
    /** The number by which the whole of the window is told, and its blocks in the log. */
    private static final int WINDOW = 4;
    private static final int LEAST_SIZE = 2;
    private static final int GREATEST_SIZE = 10;
    private static final int FIRST_SIZE = 4;
    private static final int GREATEST_WEIGHT = 99;
    private static final int GREATEST_SUM = 1000000;
    private static final int GREATEST_MANY = 25;
    private static final int GREATEST_PERCENT = 99;

    /** Powers of two, all three: so a mask keeps every place in its ring. */
    private static final int BLOCKS = 4;
    private static final int EVENTS = 8;
    private static final int STATES = 4;

    private static final int BLOCK_ARRIVALS = 8;
    private static final int TEXT_LENGTH = 60;
    private static final int NO_LETTER = -1;
    private static final int NO_FAULT = -1;
    private static final int NO_NUMBER = -1;
    private static final int FAULTS = -100;

    private static final int EVICTION = 0;
    private static final int MERGE = 1;
    private static final int BLOCK = 2;

    private static final int NO_WORD = 0;
    private static final int MERGE_WORD = 1;
    private static final int COPY_WORD = 2;
    private static final int SIZE_WORD = 3;
    private static final int CLEAR_WORD = 4;

    private final State now = new State();
    private final History history = new History();
    private final State snapshot = new State();
    private boolean snapshotTaken = false;
    private final Text text = new Text();
    /** What the window comes about to when it is looked at: not a part of the state. */
    private final Summary whole = new Summary();

    public FloorTops() {
    }

    // ---- arrivals

    public int arrive(int summary, char letter, int weight) {
        int index = letterIndex(letter);
        if (!isSummary(summary) || index == NO_LETTER) {
            return UNKNOWN;
        }
        if (!isWeight(weight)) {
            return BAD_VALUE;
        }
        Summary target = now.summaries[summary];
        if (target.sum + weight > GREATEST_SUM) {
            return FULL;
        }
        history.remember(now);
        now.bring(summary, target, index, weight);
        return target.upper(index);
    }

    public int feed(int summary) {
        if (!isSummary(summary)) {
            return UNKNOWN;
        }
        int fault = text.readArrivals();
        if (fault != NO_FAULT) {
            return FAULTS - fault;
        }
        Summary target = now.summaries[summary];
        if (target.sum + text.totalWeight() > GREATEST_SUM) {
            return FULL;
        }
        history.remember(now);
        for (int i = 0; i < text.arrivals; i++) {
            now.bring(summary, target, text.letters[i], text.weights[i]);
        }
        return text.arrivals;
    }

    public int flow(char letter, int weight) {
        int index = letterIndex(letter);
        if (index == NO_LETTER) {
            return UNKNOWN;
        }
        if (!isWeight(weight)) {
            return BAD_VALUE;
        }
        history.remember(now);
        now.bringToWindow(index, weight);
        return now.window.arrivals;
    }

    public int flowAll() {
        int fault = text.readArrivals();
        if (fault != NO_FAULT) {
            return FAULTS - fault;
        }
        history.remember(now);
        for (int i = 0; i < text.arrivals; i++) {
            now.bringToWindow(text.letters[i], text.weights[i]);
        }
        return text.arrivals;
    }

    // ---- summaries

    public int merge(int summary, int other) {
        if (!isSummary(summary) || !isSummary(other)) {
            return UNKNOWN;
        }
        if (summary == other) {
            return BAD_VALUE;
        }
        if (now.summaries[summary].sum + now.summaries[other].sum > GREATEST_SUM) {
            return FULL;
        }
        history.remember(now);
        return now.join(summary, other);
    }

    public int copy(int summary, int other) {
        if (!isSummary(summary) || !isSummary(other)) {
            return UNKNOWN;
        }
        if (summary == other) {
            return BAD_VALUE;
        }
        history.remember(now);
        now.summaries[summary].become(now.summaries[other]);
        return now.summaries[summary].counters();
    }

    public int setSize(int summary, int size) {
        if (!isSummary(summary)) {
            return UNKNOWN;
        }
        if (size < LEAST_SIZE || size > GREATEST_SIZE) {
            return BAD_VALUE;
        }
        if (now.summaries[summary].size == size) {
            return NONE;
        }
        history.remember(now);
        return now.resize(summary, size);
    }

    public int clear(int summary) {
        if (!isSummary(summary)) {
            return UNKNOWN;
        }
        int sum = now.summaries[summary].sum;
        if (sum == 0) {
            return NONE;
        }
        history.remember(now);
        now.summaries[summary].wipe();
        return sum;
    }

    // ---- texts

    public int type(char character) {
        if (text.length >= TEXT_LENGTH) {
            return FULL;
        }
        text.put(character);
        return text.length;
    }

    public int clearText() {
        int length = text.length;
        text.length = 0;
        return length;
    }

    public int perform() {
        int fault = text.readCommand();
        if (fault != NO_FAULT) {
            return FAULTS - fault;
        }
        // The state before is recorded by the act that the command names, so once only.
        switch (text.word) {
            case MERGE_WORD:
                return merge(text.firstNumber, text.secondNumber);
            case COPY_WORD:
                return copy(text.firstNumber, text.secondNumber);
            case SIZE_WORD:
                return setSize(text.firstNumber, text.secondNumber);
            default:
                return clear(text.firstNumber);
        }
    }

    // ---- history

    public int undo() {
        if (history.known == 0) {
            return NONE;
        }
        history.takeBack(now);
        return history.known;
    }

    public int keep() {
        snapshot.become(now);
        snapshotTaken = true;
        return now.time;
    }

    public int restore() {
        if (!snapshotTaken) {
            return NONE;
        }
        history.remember(now);
        now.become(snapshot);
        return now.time;
    }

    // ---- what is told; for all of these, the summary 4 is the whole of the window

    public int summary(int summary, int what) {
        Summary told = told(summary);
        if (told == null) {
            return UNKNOWN;
        }
        switch (what) {
            case 0:
                return told.size;
            case 1:
                return told.counters();
            case 2:
                return told.floor;
            case 3:
                return told.sum;
            case 4:
                return told.greatestSlack();
            case 5:
                return told.lettersThatCame();
            case 6:
                return told.held;
            default:
                return BAD_VALUE;
        }
    }

    public int bound(int summary, char letter, int what) {
        Summary told = told(summary);
        int index = letterIndex(letter);
        if (told == null || index == NO_LETTER) {
            return UNKNOWN;
        }
        switch (what) {
            case 0:
                return told.upper(index);
            case 1:
                return told.lower(index);
            case 2:
                return told.came[index];
            case 3:
                return told.has(index) ? told.slacks[index] : NONE;
            case 4:
                return told.has(index) ? told.times[index] : NONE;
            default:
                return BAD_VALUE;
        }
    }

    public int top(int summary, int place, int what) {
        Summary told = told(summary);
        if (told == null) {
            return UNKNOWN;
        }
        if (place < 0 || what < 0 || what > 1) {
            return BAD_VALUE;
        }
        int index = told.letterAt(place);
        if (index == NO_LETTER) {
            return NONE;
        }
        return what == 0 ? codeOf(index) : told.counts[index];
    }

    public int first(int summary, int many, boolean sure) {
        Summary told = told(summary);
        if (told == null) {
            return UNKNOWN;
        }
        if (many < 1 || many > GREATEST_MANY) {
            return BAD_VALUE;
        }
        int letters = 0;
        for (int i = 0; i < LETTERS; i++) {
            if (told.lettersAhead(i, sure) < many) {
                letters |= 1 << i;
            }
        }
        return letters;
    }

    public int above(int summary, int percent, boolean sure) {
        Summary told = told(summary);
        if (told == null) {
            return UNKNOWN;
        }
        if (percent < 1 || percent > GREATEST_PERCENT) {
            return BAD_VALUE;
        }
        int letters = 0;
        for (int i = 0; i < LETTERS; i++) {
            int bound = sure ? told.lower(i) : told.upper(i);
            if (bound * 100L > (long) percent * told.sum) {
                letters |= 1 << i;
            }
        }
        return letters;
    }

    public int rank(int summary, char letter, boolean greatest) {
        Summary told = told(summary);
        int index = letterIndex(letter);
        if (told == null || index == NO_LETTER) {
            return UNKNOWN;
        }
        return 1 + told.lettersAhead(index, greatest);
    }

    public int alike(int summary, int other) {
        Summary one = told(summary);
        Summary two = told(other);
        if (one == null || two == null) {
            return UNKNOWN;
        }
        int letters = 0;
        for (int i = 0; i < LETTERS; i++) {
            if (one.lower(i) <= two.upper(i) && two.lower(i) <= one.upper(i)) {
                letters++;
            }
        }
        return letters;
    }

    public int wouldEvict(int summary, char letter) {
        int index = letterIndex(letter);
        if (!isSummary(summary) || index == NO_LETTER) {
            return UNKNOWN;
        }
        Summary target = now.summaries[summary];
        int evicted = target.needsRoomFor(index) ? target.nextEvicted() : NO_LETTER;
        return evicted == NO_LETTER ? NONE : codeOf(evicted);
    }

    public int block(int block, int what) {
        if (block < 0 || block >= now.window.kept) {
            return UNKNOWN;
        }
        Summary told = now.window.blockAt(block);
        switch (what) {
            case 0:
                return now.window.arrivalsOf(block);
            case 1:
                return told.sum;
            case 2:
                return told.counters();
            case 3:
                return told.floor;
            default:
                return BAD_VALUE;
        }
    }

    public int event(int back, int what) {
        if (back < 0 || what < 0 || what > 3) {
            return BAD_VALUE;
        }
        if (back >= now.log.known) {
            return NONE;
        }
        int slot = now.log.slotOf(back);
        switch (what) {
            case 0:
                return now.log.kinds[slot];
            case 1:
                return now.log.places[slot];
            case 2:
                return now.log.values[slot];
            default:
                return now.log.times[slot];
        }
    }

    public int count(int what) {
        switch (what) {
            case 0:
                return now.time;
            case 1:
                return now.evictions;
            case 2:
                return now.merges;
            case 3:
                return now.window.begun;
            case 4:
                return now.window.kept;
            case 5:
                return now.window.arrivals;
            case 6:
                return history.known;
            case 7:
                return text.length;
            default:
                return BAD_VALUE;
        }
    }

    // ---- what arguments mean

    private static boolean isSummary(int summary) {
        return summary >= 0 && summary < SUMMARIES;
    }

    private static boolean isWeight(int weight) {
        return weight >= 1 && weight <= GREATEST_WEIGHT;
    }

    private static int letterIndex(char letter) {
        return letter >= 'a' && letter <= 'z' ? letter - 'a' : NO_LETTER;
    }

    private static int codeOf(int index) {
        return 'a' + index;
    }

    /** Answers null if there is no such summary. */
    private Summary told(int summary) {
        if (summary == WINDOW) {
            now.window.look(whole, now.time);
            return whole;
        }
        return isSummary(summary) ? now.summaries[summary] : null;
    }

    /** One summary: a row's place is the letter's number. */
    private static final class Summary {
        int size = FIRST_SIZE;
        int floor = 0;
        int sum = 0;
        /** The letters with a counter, as bits; the rows below hold nothing for the others. */
        int held = 0;
        final int[] counts = new int[LETTERS];
        final int[] slacks = new int[LETTERS];
        final int[] times = new int[LETTERS];
        /** What came of each letter, with a counter or without. */
        final int[] came = new int[LETTERS];

        boolean has(int letter) {
            return (held >> letter & 1) != 0;
        }

        int counters() {
            return Integer.bitCount(held);
        }

        int upper(int letter) {
            return has(letter) ? counts[letter] : floor;
        }

        int lower(int letter) {
            return has(letter) ? counts[letter] - slacks[letter] : 0;
        }

        /** The slack that merging takes: without a counter, any part of the floor may be wrong. */
        int slackToMerge(int letter) {
            return has(letter) ? slacks[letter] : floor;
        }

        boolean needsRoomFor(int letter) {
            return !has(letter) && counters() >= size;
        }

        /** Answers the letter that is evicted, or NO_LETTER. */
        int receive(int letter, int weight, int time) {
            int evicted = NO_LETTER;
            sum += weight;
            came[letter] += weight;
            if (has(letter)) {
                counts[letter] += weight;
            } else {
                if (needsRoomFor(letter)) {
                    evicted = evictNext();
                }
                // Only now: the eviction may have raised the floor.
                counts[letter] = floor + weight;
                slacks[letter] = floor;
                held |= 1 << letter;
            }
            times[letter] = time;
            return evicted;
        }

        int nextEvicted() {
            int least = NO_LETTER;
            for (int i = 0; i < LETTERS; i++) {
                if (has(i) && (least == NO_LETTER || goesBefore(i, least))) {
                    least = i;
                }
            }
            return least;
        }

        private boolean goesBefore(int letter, int other) {
            return counts[letter] < counts[other]
                || counts[letter] == counts[other] && times[letter] < times[other];
        }

        /** Answers the letter that is evicted, or NO_LETTER if there is no counter. */
        int evictNext() {
            int evicted = nextEvicted();
            if (evicted != NO_LETTER) {
                takeCounter(evicted);
            }
            return evicted;
        }

        private void takeCounter(int letter) {
            floor = Math.max(floor, counts[letter]);
            held &= ~(1 << letter);
        }

        /** Becomes what merging with the other one makes; answers the counters left out. */
        int absorb(Summary other, int time) {
            int both = held | other.held;
            for (int i = 0; i < LETTERS; i++) {
                if ((both >> i & 1) != 0) {
                    int count = upper(i) + other.upper(i);
                    int slack = slackToMerge(i) + other.slackToMerge(i);
                    counts[i] = count;
                    slacks[i] = slack;
                    times[i] = time;
                }
                came[i] += other.came[i];
            }
            held = both;
            floor += other.floor;
            sum += other.sum;
            return leaveOut();
        }

        private int leaveOut() {
            int left = 0;
            for (int i = 0; i < LETTERS && counters() > size; i++) {
                int letter = nextLeftOut();
                if (letter != NO_LETTER) {
                    takeCounter(letter);
                    left++;
                }
            }
            return left;
        }

        /** Not as in nextEvicted: of several with the least count, the last letter. */
        private int nextLeftOut() {
            int least = NO_LETTER;
            for (int i = 0; i < LETTERS; i++) {
                if (has(i) && (least == NO_LETTER || counts[i] <= counts[least])) {
                    least = i;
                }
            }
            return least;
        }

        void become(Summary other) {
            size = other.size;
            floor = other.floor;
            sum = other.sum;
            held = other.held;
            System.arraycopy(other.counts, 0, counts, 0, LETTERS);
            System.arraycopy(other.slacks, 0, slacks, 0, LETTERS);
            System.arraycopy(other.times, 0, times, 0, LETTERS);
            System.arraycopy(other.came, 0, came, 0, LETTERS);
        }

        void wipe() {
            floor = 0;
            sum = 0;
            held = 0;
            for (int i = 0; i < LETTERS; i++) {
                came[i] = 0;
            }
        }

        int greatestSlack() {
            int greatest = 0;
            for (int i = 0; i < LETTERS; i++) {
                if (has(i)) {
                    greatest = Math.max(greatest, slacks[i]);
                }
            }
            return greatest;
        }

        int lettersThatCame() {
            int letters = 0;
            for (int i = 0; i < LETTERS; i++) {
                if (came[i] > 0) {
                    letters |= 1 << i;
                }
            }
            return letters;
        }

        /** The letter at a place from the greatest count on, or NO_LETTER. */
        int letterAt(int place) {
            for (int i = 0; i < LETTERS; i++) {
                if (has(i) && placeOf(i) == place) {
                    return i;
                }
            }
            return NO_LETTER;
        }

        private int placeOf(int letter) {
            int place = 0;
            for (int i = 0; i < LETTERS; i++) {
                if (has(i) && (counts[i] > counts[letter]
                        || counts[i] == counts[letter] && i < letter)) {
                    place++;
                }
            }
            return place;
        }

        /** The other letters that can be ahead of this one, or else that must be. */
        int lettersAhead(int letter, boolean canBe) {
            int bar = canBe ? lower(letter) : upper(letter);
            int ahead = 0;
            for (int i = 0; i < LETTERS; i++) {
                int reach = canBe ? upper(i) : lower(i);
                if (i != letter && reach > bar) {
                    ahead++;
                }
            }
            return ahead;
        }
    }

    /** The blocks that are kept, in a ring. */
    private static final class Window {
        final Summary[] blocks = new Summary[BLOCKS];
        int present = 0;
        int kept = 1;
        int begun = 1;
        /** Those of the present block: each block before it is full. */
        int arrivals = 0;

        Window() {
            for (int i = 0; i < BLOCKS; i++) {
                blocks[i] = new Summary();
            }
        }

        Summary presentBlock() {
            return blocks[present & (BLOCKS - 1)];
        }

        Summary blockAt(int block) {
            return blocks[present - kept + 1 + block & (BLOCKS - 1)];
        }

        int arrivalsOf(int block) {
            return block == kept - 1 ? arrivals : BLOCK_ARRIVALS;
        }

        void beginBlock() {
            present = present + 1 & (BLOCKS - 1);
            kept = Math.min(kept + 1, BLOCKS);
            begun++;
            arrivals = 0;
            presentBlock().wipe();
        }

        void look(Summary whole, int time) {
            whole.become(blockAt(0));
            for (int i = 1; i < kept; i++) {
                whole.absorb(blockAt(i), time);
            }
        }

        void become(Window other) {
            present = other.present;
            kept = other.kept;
            begun = other.begun;
            arrivals = other.arrivals;
            for (int i = 0; i < BLOCKS; i++) {
                blocks[i].become(other.blocks[i]);
            }
        }
    }

    /** The latest events, in a ring. */
    private static final class Log {
        final int[] kinds = new int[EVENTS];
        final int[] places = new int[EVENTS];
        final int[] values = new int[EVENTS];
        final int[] times = new int[EVENTS];
        int next = 0;
        int known = 0;

        void note(int kind, int place, int value, int time) {
            int slot = next & (EVENTS - 1);
            kinds[slot] = kind;
            places[slot] = place;
            values[slot] = value;
            times[slot] = time;
            next = next + 1 & (EVENTS - 1);
            known = Math.min(known + 1, EVENTS);
        }

        int slotOf(int back) {
            return next - 1 - back & (EVENTS - 1);
        }

        void become(Log other) {
            System.arraycopy(other.kinds, 0, kinds, 0, EVENTS);
            System.arraycopy(other.places, 0, places, 0, EVENTS);
            System.arraycopy(other.values, 0, values, 0, EVENTS);
            System.arraycopy(other.times, 0, times, 0, EVENTS);
            next = other.next;
            known = other.known;
        }
    }

    /** All that undo() and restore() bring back. */
    private static final class State {
        final Summary[] summaries = new Summary[SUMMARIES];
        final Window window = new Window();
        final Log log = new Log();
        int time = 0;
        int evictions = 0;
        int merges = 0;

        State() {
            for (int i = 0; i < SUMMARIES; i++) {
                summaries[i] = new Summary();
            }
        }

        /** The place is the target's number in the log. */
        void bring(int place, Summary target, int letter, int weight) {
            time++;
            noteEviction(place, target.receive(letter, weight, time));
        }

        void bringToWindow(int letter, int weight) {
            if (window.arrivals >= BLOCK_ARRIVALS) {
                window.beginBlock();
                log.note(BLOCK, WINDOW, window.begun, time);
            }
            window.arrivals++;
            bring(WINDOW, window.presentBlock(), letter, weight);
        }

        private void noteEviction(int place, int letter) {
            if (letter != NO_LETTER) {
                evictions++;
                log.note(EVICTION, place, codeOf(letter), time);
            }
        }

        int join(int summary, int other) {
            int left = summaries[summary].absorb(summaries[other], time);
            summaries[other].wipe();
            merges++;
            log.note(MERGE, summary, left, time);
            return left;
        }

        int resize(int summary, int size) {
            Summary target = summaries[summary];
            int evicted = 0;
            target.size = size;
            for (int i = 0; i < LETTERS && target.counters() > size; i++) {
                noteEviction(summary, target.evictNext());
                evicted++;
            }
            return evicted;
        }

        void become(State other) {
            for (int i = 0; i < SUMMARIES; i++) {
                summaries[i].become(other.summaries[i]);
            }
            window.become(other.window);
            log.become(other.log);
            time = other.time;
            evictions = other.evictions;
            merges = other.merges;
        }
    }

    /** The latest states, in a ring. */
    private static final class History {
        final State[] states = new State[STATES];
        int next = 0;
        int known = 0;

        History() {
            for (int i = 0; i < STATES; i++) {
                states[i] = new State();
            }
        }

        void remember(State state) {
            states[next & (STATES - 1)].become(state);
            next = next + 1 & (STATES - 1);
            known = Math.min(known + 1, STATES);
        }

        void takeBack(State state) {
            next = next - 1 & (STATES - 1);
            known--;
            state.become(states[next]);
        }
    }

    /** The text, and what the latest reading of it found. */
    private static final class Text {
        final char[] signs = new char[TEXT_LENGTH];
        int length = 0;
        final int[] letters = new int[TEXT_LENGTH];
        final int[] weights = new int[TEXT_LENGTH];
        int arrivals = 0;
        int word = NO_WORD;
        int firstNumber = NO_NUMBER;
        int secondNumber = NO_NUMBER;
        private int at = 0;

        void put(char sign) {
            if (length < TEXT_LENGTH) {
                signs[length] = sign;
                length++;
            }
        }

        /** Behind the text it answers the sign 0, which no place allows, typed or not. */
        private char sign() {
            return at < length ? signs[at] : (char) 0;
        }

        private boolean isDigit() {
            return sign() >= '0' && sign() <= '9';
        }

        private int takeDigit() {
            int digit = sign() - '0';
            at++;
            return digit;
        }

        /** Answers the fault of the text as arrivals, or NO_FAULT. */
        int readArrivals() {
            at = 0;
            arrivals = 0;
            boolean more = true;
            for (int i = 0; i < TEXT_LENGTH && more; i++) {
                int letter = letterIndex(sign());
                if (letter == NO_LETTER) {
                    return at;
                }
                at++;
                letters[i] = letter;
                weights[i] = readWeight();
                arrivals++;
                more = at < length;
                if (more) {
                    if (sign() != ',') {
                        return at;
                    }
                    at++;
                }
            }
            return NO_FAULT;
        }

        private int readWeight() {
            return isDigit() && sign() != '0' ? readNumber() : 1;
        }

        /** To be called at a digit only. */
        private int readNumber() {
            int number = takeDigit();
            if (number != 0 && isDigit()) {
                number = number * 10 + takeDigit();
            }
            return number;
        }

        int totalWeight() {
            int total = 0;
            for (int i = 0; i < arrivals; i++) {
                total += weights[i];
            }
            return total;
        }

        /** Answers the fault of the text as a command, or NO_FAULT. */
        int readCommand() {
            at = 0;
            for (int i = 0; i < TEXT_LENGTH && letterIndex(sign()) != NO_LETTER; i++) {
                at++;
            }
            word = wordBefore(at);
            if (word == NO_WORD) {
                return 0;
            }
            firstNumber = readArgument();
            if (firstNumber == NO_NUMBER) {
                return at;
            }
            if (word != CLEAR_WORD) {
                secondNumber = readArgument();
                if (secondNumber == NO_NUMBER) {
                    return at;
                }
            }
            return at < length ? at : NO_FAULT;
        }

        private int readArgument() {
            if (sign() != ' ') {
                return NO_NUMBER;
            }
            at++;
            return isDigit() ? readNumber() : NO_NUMBER;
        }

        private int wordBefore(int end) {
            if (beginsWith("merge", end)) {
                return MERGE_WORD;
            }
            if (beginsWith("copy", end)) {
                return COPY_WORD;
            }
            if (beginsWith("size", end)) {
                return SIZE_WORD;
            }
            return beginsWith("clear", end) ? CLEAR_WORD : NO_WORD;
        }

        private boolean beginsWith(String wanted, int end) {
            boolean same = wanted.length() == end && end <= length;
            for (int i = 0; i < end && same; i++) {
                same = signs[i] == wanted.charAt(i);
            }
            return same;
        }
    }
}
