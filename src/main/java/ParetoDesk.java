import java.util.Arrays;
import java.util.NoSuchElementException;

/** A desk for choices with two aims. All rows are made once, with the desk, and used again by each call. */
public final class ParetoDesk {
    public static final int NONE = -1;
    public static final int PARSE_ERROR = -4;

    private static final int MOST_BYTES = 600;
    private static final int BYTES_APPENDED = 20;
    private static final int MOST_ITEMS = 12;
    private static final int MOST_SETS = 1 << MOST_ITEMS;
    private static final int MOST_CAPACITY = 999;
    private static final int MOST_LIMIT = 12;
    private static final int MOST_VALUE = 99;
    // Sums of gains, and of joys, are 0 to 1188; no two points have the same gain.
    private static final int SUMS = MOST_ITEMS * MOST_VALUE + 1;
    // Each step that finds a point adds two boxes, and no point is found twice.
    private static final int MOST_STEPS = 2 * SUMS;
    // A pair that beats another one has a greater sum of gain and joy, so a chain of them, and the layers, are no more.
    private static final int MOST_LAYERS = 2 * SUMS;
    private static final int MOST_OUTPUT = SUMS * (MOST_ITEMS + 1);
    private static final int MOST_UNDOS = 8;
    private static final int SLOTS = 2;

    private static final int SUPPORTED = 1;
    private static final int VERTEX = 2;

    private final byte[] input = new byte[MOST_BYTES];
    private int inputLength;
    private final Parser parser = new Parser();
    private int parseCode;
    private int parsePosition = NONE;

    private final Setup now = new Setup();
    private final Past past = new Past();
    private final Setup[] slots = new Setup[SLOTS];
    private final boolean[] slotUsed = new boolean[SLOTS];
    private final Output output = new Output();

    private final Choices choices = new Choices();
    private final Stairs stairs = new Stairs();
    private final Frontier frontier = new Frontier();
    private final Search search = new Search();
    private final Layers layering = new Layers();
    private final Climber climber = new Climber();
    private boolean frontierFresh;
    private boolean searchFresh;
    private boolean layersFresh;

    public ParetoDesk() {
        for (int i = 0; i < SLOTS; i++) {
            slots[i] = new Setup();
        }
    }

    // ---- input ----

    public int append(int a, int b, int c, int d, int e) throws IllegalStateException {
        if (inputLength > MOST_BYTES - BYTES_APPENDED) {
            throw new IllegalStateException("the input buffer is full");
        }
        putInput(a);
        putInput(b);
        putInput(c);
        putInput(d);
        putInput(e);
        return inputLength;
    }

    private void putInput(int four) {
        for (int shift = 24; shift >= 0; shift -= 8) {
            if (inputLength < MOST_BYTES) {
                input[inputLength] = (byte) (four >> shift);
                inputLength++;
            }
        }
    }

    public void truncate(int length) throws IllegalArgumentException {
        if (length < 0 || length > inputLength) {
            throw new IllegalArgumentException("no such length");
        }
        inputLength = length;
    }

    public int load() {
        boolean good = parser.parse(input, inputLength);
        inputLength = 0;
        parseCode = parser.code;
        parsePosition = parser.place;
        if (!good) {
            return PARSE_ERROR;
        }
        past.push(now);
        now.copyFrom(parser.draft);
        markChanged();
        return now.items;
    }

    public int errorCode() {
        return parseCode;
    }

    public int errorPosition() {
        return parsePosition;
    }

    // ---- items, rules and choices ----

    public int property(int what) throws IllegalArgumentException {
        requireWhat(what, 7);
        switch (what) {
            case 0: return now.items;
            case 1: return now.capacity;
            case 2: return now.limit;
            case 3: return now.countBits(now.bars) / 2;
            case 4: return now.countBits(now.needs);
            case 5: return now.mustSet;
            case 6: return now.neverSet;
            default: return now.hand;
        }
    }

    public int item(int item, int what) throws IndexOutOfBoundsException, IllegalArgumentException {
        requireItem(item);
        requireWhat(what, 4);
        switch (what) {
            case 0: return now.weight[item];
            case 1: return now.gain[item];
            case 2: return now.joy[item];
            case 3: return now.bars[item];
            default: return now.needs[item];
        }
    }

    public int refusal(int set) throws IllegalArgumentException {
        requireSet(set);
        refreshFrontier();
        return choices.reason(set, now.capacity);
    }

    public int sum(int set, int what) throws IllegalArgumentException {
        requireSet(set);
        requireWhat(what, 2);
        refreshFrontier();
        switch (what) {
            case 0: return choices.weight[set];
            case 1: return choices.gain[set];
            default: return choices.joy[set];
        }
    }

    public int allowed() {
        refreshFrontier();
        return frontier.allowedCount;
    }

    // ---- points ----

    public int points() {
        refreshFrontier();
        return frontier.size;
    }

    public int point(int point, int what) throws IndexOutOfBoundsException, IllegalArgumentException {
        requirePoint(point);
        requireWhat(what, 6);
        switch (what) {
            case 0: return frontier.gain[point];
            case 1: return frontier.joy[point];
            case 2: return frontier.choice[point];
            case 3: return frontier.times[point];
            case 4: return choices.weight[frontier.choice[point]];
            case 5: return frontier.mark[point] >= SUPPORTED ? 1 : 0;
            default: return frontier.mark[point] == VERTEX ? 1 : 0;
        }
    }

    public int lightest(int point) throws IndexOutOfBoundsException {
        requirePoint(point);
        return frontier.light[point];
    }

    public int pointOf(int set) throws IllegalArgumentException {
        requireSet(set);
        refreshFrontier();
        return frontier.pointWithPair(choices.gain[set], choices.joy[set]);
    }

    public int beatenBy(int set) throws IllegalArgumentException {
        requireSet(set);
        refreshFrontier();
        for (int i = 0; i < frontier.size; i++) {
            if (frontier.beats(i, choices.gain[set], choices.joy[set])) {
                return i;
            }
        }
        return NONE;
    }

    public int beating(int gain, int joy) {
        refreshFrontier();
        int count = 0;
        for (int i = 0; i < frontier.size; i++) {
            if (frontier.beats(i, gain, joy)) {
                count++;
            }
        }
        return count;
    }

    public int joyFor(int gain) {
        refreshFrontier();
        for (int i = 0; i < frontier.size; i++) {
            if (frontier.gain[i] >= gain) {
                return frontier.joy[i];
            }
        }
        return NONE;
    }

    public int gainFor(int joy) {
        refreshFrontier();
        for (int i = frontier.size - 1; i >= 0; i--) {
            if (frontier.joy[i] >= joy) {
                return frontier.gain[i];
            }
        }
        return NONE;
    }

    public int best(int p, int q) throws IllegalArgumentException {
        requireWeights(p, q);
        refreshFrontier();
        return frontier.greatestBy(p, q);
    }

    public int nearest(int p, int q) throws IllegalArgumentException {
        requireWeights(p, q);
        refreshFrontier();
        return frontier.leastLack(p, q);
    }

    // ---- vertices, boxes and the search ----

    public int vertices() {
        refreshFrontier();
        return frontier.vertexCount;
    }

    public int vertex(int index) throws IndexOutOfBoundsException {
        refreshFrontier();
        if (index < 0 || index >= frontier.vertexCount) {
            throw new IndexOutOfBoundsException("no such vertex");
        }
        return frontier.vertexPoint[index];
    }

    public int supported() {
        refreshFrontier();
        return frontier.supportedBetween(NONE, frontier.size);
    }

    public int box(int box, int what) throws IndexOutOfBoundsException, IllegalArgumentException {
        refreshFrontier();
        if (box < 0 || box >= frontier.vertexCount - 1) {
            throw new IndexOutOfBoundsException("no such box");
        }
        requireWhat(what, 4);
        int first = frontier.vertexPoint[box];
        int second = frontier.vertexPoint[box + 1];
        switch (what) {
            case 0: return first;
            case 1: return second;
            case 2: return second - first - 1;
            case 3: return frontier.supportedBetween(first, second);
            default: return second - first > 1 ? frontier.gain[second - 1] : NONE;
        }
    }

    public int steps() {
        refreshSearch();
        return search.count;
    }

    public int step(int step, int what) throws IllegalArgumentException, NoSuchElementException {
        requireWhat(what, 4);
        refreshSearch();
        if (step < 0 || step >= search.count) {
            throw new NoSuchElementException("no such step");
        }
        int i = search.from[step];
        int j = search.to[step];
        switch (what) {
            case 0: return i;
            case 1: return j;
            case 2: return frontier.joyLost(i, j);
            case 3: return frontier.gainWon(i, j);
            default: return search.found[step];
        }
    }

    public int fullest() {
        refreshFrontier();
        int fullest = NONE;
        int most = NONE;
        for (int i = 0; i + 1 < frontier.vertexCount; i++) {
            int between = frontier.vertexPoint[i + 1] - frontier.vertexPoint[i] - 1;
            if (between > most) {
                most = between;
                fullest = i;
            }
        }
        return fullest;
    }

    // ---- the shape of the frontier ----

    public int area() {
        refreshFrontier();
        return frontier.areaBelow;
    }

    public int knee() {
        refreshSearch();
        // The last point has the first one's value by these weights, so what the first step finds lies between.
        return search.count > 0 ? search.found[0] : NONE;
    }

    public int gap() {
        refreshFrontier();
        int widest = NONE;
        int most = 0;
        for (int i = 0; i + 1 < frontier.size; i++) {
            int product = frontier.gainWon(i, i + 1) * frontier.joyLost(i, i + 1);
            if (product > most) {
                most = product;
                widest = i;
            }
        }
        return widest;
    }

    public int core() {
        refreshFrontier();
        int core = frontier.size > 0 ? now.everyItem() : 0;
        for (int i = 0; i < frontier.size; i++) {
            core &= frontier.choice[i];
        }
        return core;
    }

    public int unused() {
        refreshFrontier();
        int unused = now.everyItem();
        for (int i = 0; i < frontier.size; i++) {
            unused &= ~frontier.choice[i];
        }
        return unused;
    }

    // ---- what single items and other capacities are worth ----

    public int lostWithout(int item) throws IndexOutOfBoundsException {
        requireItem(item);
        refreshFrontier();
        return frontier.size - frontier.countReached(choices, now.capacity, 1 << item);
    }

    public int worth(int item) throws IndexOutOfBoundsException {
        requireItem(item);
        refreshFrontier();
        if (frontier.allowedCount == 0) {
            return 0;
        }
        stairs.build(choices, now.capacity, 1 << item);
        return stairs.allowedCount == 0 ? NONE : frontier.areaBelow - stairs.areaBelow();
    }

    public int pointsWith(int capacity) throws IllegalArgumentException {
        requireCapacity(capacity);
        refreshFrontier();
        stairs.build(choices, capacity, 0);
        return stairs.countCorners();
    }

    public int capacityFor(int gain, int joy) {
        refreshFrontier();
        return choices.leastWeight(gain, joy);
    }

    // ---- distances ----

    public int nearTo(int set) throws IllegalArgumentException {
        requireSet(set);
        refreshFrontier();
        int near = NONE;
        int least = MOST_ITEMS + 1;
        for (int i = 0; i < frontier.size; i++) {
            int differing = Integer.bitCount(frontier.choice[i] ^ set);
            if (differing < least) {
                least = differing;
                near = i;
            }
        }
        return near;
    }

    public int apart(int point, int other) throws IndexOutOfBoundsException {
        requirePoint(point);
        requirePoint(other);
        return Integer.bitCount(frontier.choice[point] ^ frontier.choice[other]);
    }

    // ---- layers and climbing ----

    public int layers() {
        refreshLayers();
        return layering.count;
    }

    public int layerSize(int layer) throws IndexOutOfBoundsException {
        refreshLayers();
        if (layer < 0 || layer >= layering.count) {
            throw new IndexOutOfBoundsException("no such layer");
        }
        return layering.size[layer];
    }

    public int layerOf(int set) throws IllegalArgumentException {
        requireSet(set);
        refreshLayers();
        return layering.layer[set];
    }

    public int climb(int p, int q) throws IllegalArgumentException {
        requireWeights(p, q);
        refreshFrontier();
        climber.run(choices, now, p, q);
        return climber.at;
    }

    public double share() {
        refreshFrontier();
        if (frontier.allowedCount == 0) {
            return 0.0;
        }
        return (double) frontier.size / (double) frontier.allowedCount;
    }

    // ---- changes of items and rules ----

    public int addItem(int weight, int gain, int joy) throws IllegalArgumentException, IllegalStateException {
        requireValue(weight);
        requireValue(gain);
        requireValue(joy);
        if (now.items >= MOST_ITEMS) {
            throw new IllegalStateException("there are 12 items");
        }
        past.push(now);
        now.addLast(weight, gain, joy);
        markChanged();
        return now.items - 1;
    }

    public int dropItem(int item) throws IndexOutOfBoundsException {
        requireItem(item);
        past.push(now);
        now.drop(item);
        markChanged();
        return now.items;
    }

    public int setItem(int item, int what, int value) throws IndexOutOfBoundsException, IllegalArgumentException {
        requireItem(item);
        requireWhat(what, 2);
        requireValue(value);
        past.push(now);
        int[] row = what == 0 ? now.weight : what == 1 ? now.gain : now.joy;
        int previous = row[item];
        row[item] = value;
        markChanged();
        return previous;
    }

    public int setCapacity(int capacity) throws IllegalArgumentException {
        requireCapacity(capacity);
        past.push(now);
        int previous = now.capacity;
        now.capacity = capacity;
        markChanged();
        return previous;
    }

    public int setLimit(int limit) throws IllegalArgumentException {
        if (limit < 0 || limit > MOST_LIMIT) {
            throw new IllegalArgumentException("no such limit");
        }
        past.push(now);
        int previous = now.limit;
        now.limit = limit;
        markChanged();
        return previous;
    }

    public boolean bar(int item, int other, boolean on) throws IndexOutOfBoundsException, IllegalArgumentException {
        requireTwoItems(item, other);
        past.push(now);
        boolean before = hasBit(now.bars[item], other);
        now.bars[item] = withBit(now.bars[item], other, on);
        now.bars[other] = withBit(now.bars[other], item, on);
        markChanged();
        return before;
    }

    public boolean need(int item, int other, boolean on) throws IndexOutOfBoundsException, IllegalArgumentException {
        requireTwoItems(item, other);
        past.push(now);
        boolean before = hasBit(now.needs[item], other);
        now.needs[item] = withBit(now.needs[item], other, on);
        markChanged();
        return before;
    }

    public boolean must(int item, boolean on) throws IndexOutOfBoundsException {
        requireItem(item);
        past.push(now);
        boolean before = hasBit(now.mustSet, item);
        now.mustSet = withBit(now.mustSet, item, on);
        markChanged();
        return before;
    }

    public boolean never(int item, boolean on) throws IndexOutOfBoundsException {
        requireItem(item);
        past.push(now);
        boolean before = hasBit(now.neverSet, item);
        now.neverSet = withBit(now.neverSet, item, on);
        markChanged();
        return before;
    }

    // ---- the choice at hand ----

    public int choose(int set) throws IllegalArgumentException, IllegalStateException {
        requireSet(set);
        requireAllowed(set);
        int previous = now.hand;
        takeInHand(set);
        return previous;
    }

    public int chooseBest(int p, int q) throws IllegalArgumentException, IllegalStateException {
        requireWeights(p, q);
        refreshFrontier();
        int point = frontier.greatestBy(p, q);
        if (point == NONE) {
            throw new IllegalStateException("there are no points");
        }
        takeInHand(frontier.choice[point]);
        return now.hand;
    }

    public int improve(int p, int q) throws IllegalArgumentException {
        requireWeights(p, q);
        refreshFrontier();
        climber.run(choices, now, p, q);
        takeInHand(climber.at);
        return climber.steps;
    }

    public int take(int item) throws IndexOutOfBoundsException, IllegalStateException {
        requireItem(item);
        if (hasBit(now.hand, item)) {
            throw new IllegalStateException("the choice at hand has this item");
        }
        int set = withBit(now.hand, item, true);
        requireAllowed(set);
        takeInHand(set);
        return choices.weight[set];
    }

    public int leave(int item) throws IndexOutOfBoundsException, IllegalStateException {
        requireItem(item);
        if (!hasBit(now.hand, item)) {
            throw new IllegalStateException("the choice at hand does not have this item");
        }
        int set = withBit(now.hand, item, false);
        requireAllowed(set);
        takeInHand(set);
        return choices.weight[set];
    }

    private void takeInHand(int set) {
        past.push(now);
        now.hand = set;
    }

    // ---- slots and undo ----

    public int keep(int slot) throws IndexOutOfBoundsException {
        requireSlot(slot);
        slots[slot].copyFrom(now);
        slotUsed[slot] = true;
        return now.items;
    }

    public int restore(int slot) throws IndexOutOfBoundsException, IllegalStateException {
        requireSlot(slot);
        if (!slotUsed[slot]) {
            throw new IllegalStateException("nothing is kept there");
        }
        past.push(now);
        now.copyFrom(slots[slot]);
        markChanged();
        return now.items;
    }

    public int undo() throws IllegalStateException {
        if (past.count <= 0) {
            throw new IllegalStateException("there is nothing to undo");
        }
        past.pop(now);
        markChanged();
        return past.count;
    }

    public int undoCount() {
        return past.count;
    }

    // ---- output ----

    public int writeFrontier() {
        refreshFrontier();
        output.length = 0;
        for (int i = 0; i < frontier.size; i++) {
            if (i > 0) {
                output.put(' ');
            }
            output.putNumber(frontier.gain[i]);
            output.put(',');
            output.putNumber(frontier.joy[i]);
            output.put(frontier.mark[i] == VERTEX ? '!' : frontier.mark[i] == SUPPORTED ? '+' : '.');
        }
        return output.length;
    }

    public int writeChoices() {
        refreshFrontier();
        output.length = 0;
        for (int i = 0; i < frontier.size; i++) {
            for (int item = 0; item < now.items; item++) {
                output.put(hasBit(frontier.choice[i], item) ? '1' : '0');
            }
            output.put('\n');
        }
        return output.length;
    }

    public int outputByte(int index) throws IndexOutOfBoundsException {
        if (index < 0 || index >= output.length) {
            throw new IndexOutOfBoundsException("no such byte");
        }
        return output.bytes[index];
    }

    // ---- what is worked out once behind each change ----

    private void markChanged() {
        frontierFresh = false;
        searchFresh = false;
        layersFresh = false;
    }

    private void refreshFrontier() {
        if (!frontierFresh) {
            choices.build(now);
            stairs.build(choices, now.capacity, 0);
            frontier.build(choices, now.capacity, stairs);
            frontierFresh = true;
        }
    }

    private void refreshSearch() {
        refreshFrontier();
        if (!searchFresh) {
            search.run(frontier);
            searchFresh = true;
        }
    }

    private void refreshLayers() {
        refreshFrontier();
        if (!layersFresh) {
            layering.build(choices, now.capacity);
            layersFresh = true;
        }
    }

    // ---- what a call asks of its arguments ----

    private void requireItem(int item) {
        if (!now.hasItem(item)) {
            throw new IndexOutOfBoundsException("no such item");
        }
    }

    private void requireTwoItems(int item, int other) {
        requireItem(item);
        requireItem(other);
        if (item == other) {
            throw new IllegalArgumentException("both are the same item");
        }
    }

    private void requireSet(int set) {
        if (set < 0 || set > now.everyItem()) {
            throw new IllegalArgumentException("no such set");
        }
    }

    private void requireAllowed(int set) {
        refreshFrontier();
        if (choices.reason(set, now.capacity) != 0) {
            throw new IllegalStateException("the choice is refused");
        }
    }

    private void requirePoint(int point) {
        refreshFrontier();
        if (point < 0 || point >= frontier.size) {
            throw new IndexOutOfBoundsException("no such point");
        }
    }

    private static void requireSlot(int slot) {
        if (slot < 0 || slot >= SLOTS) {
            throw new IndexOutOfBoundsException("no such slot");
        }
    }

    private static void requireWhat(int what, int greatest) {
        if (what < 0 || what > greatest) {
            throw new IllegalArgumentException("no such number is told");
        }
    }

    private static void requireValue(int value) {
        if (value < 0 || value > MOST_VALUE) {
            throw new IllegalArgumentException("the value is out of range");
        }
    }

    private static void requireCapacity(int capacity) {
        if (capacity < 0 || capacity > MOST_CAPACITY) {
            throw new IllegalArgumentException("no such capacity");
        }
    }

    private static void requireWeights(int p, int q) {
        requireValue(p);
        requireValue(q);
        if (p == 0 && q == 0) {
            throw new IllegalArgumentException("both weights are 0");
        }
    }

    private static boolean hasBit(int set, int item) {
        return (set >> item & 1) != 0;
    }

    private static int withBit(int set, int item, boolean on) {
        return on ? set | 1 << item : set & ~(1 << item);
    }

    /** Everything that undo() brings back, but what can be undone. */
    private static final class Setup {
        int items;
        int capacity = 20;
        int limit = MOST_LIMIT;
        int mustSet;
        int neverSet;
        int hand;
        final int[] weight = new int[MOST_ITEMS];
        final int[] gain = new int[MOST_ITEMS];
        final int[] joy = new int[MOST_ITEMS];
        final int[] bars = new int[MOST_ITEMS];
        final int[] needs = new int[MOST_ITEMS];

        boolean hasItem(int item) {
            return item >= 0 && item < items;
        }

        int everyItem() {
            return (1 << items) - 1;
        }

        int countBits(int[] sets) {
            int count = 0;
            for (int i = 0; i < items; i++) {
                count += Integer.bitCount(sets[i]);
            }
            return count;
        }

        void copyFrom(Setup other) {
            items = other.items;
            capacity = other.capacity;
            limit = other.limit;
            mustSet = other.mustSet;
            neverSet = other.neverSet;
            hand = other.hand;
            System.arraycopy(other.weight, 0, weight, 0, MOST_ITEMS);
            System.arraycopy(other.gain, 0, gain, 0, MOST_ITEMS);
            System.arraycopy(other.joy, 0, joy, 0, MOST_ITEMS);
            System.arraycopy(other.bars, 0, bars, 0, MOST_ITEMS);
            System.arraycopy(other.needs, 0, needs, 0, MOST_ITEMS);
        }

        /** Makes a setup without items; what is left in the rows is written over when an item comes there. */
        void clear() {
            items = 0;
            mustSet = 0;
            neverSet = 0;
            hand = 0;
        }

        void addLast(int itemWeight, int itemGain, int itemJoy) {
            if (items < MOST_ITEMS) {
                weight[items] = itemWeight;
                gain[items] = itemGain;
                joy[items] = itemJoy;
                bars[items] = 0;
                needs[items] = 0;
                items++;
            }
        }

        void drop(int item) {
            items--;
            for (int i = item; i < items; i++) {
                weight[i] = weight[i + 1];
                gain[i] = gain[i + 1];
                joy[i] = joy[i + 1];
                bars[i] = bars[i + 1];
                needs[i] = needs[i + 1];
            }
            for (int i = 0; i < items; i++) {
                bars[i] = withoutPlace(bars[i], item);
                needs[i] = withoutPlace(needs[i], item);
            }
            mustSet = withoutPlace(mustSet, item);
            neverSet = withoutPlace(neverSet, item);
            hand = withoutPlace(hand, item);
        }

        private static int withoutPlace(int set, int item) {
            int below = set & ((1 << item) - 1);
            int above = set >> (item + 1) << item;
            return below | above;
        }
    }

    /** What can be undone, the oldest one first. */
    private static final class Past {
        final Setup[] setups = new Setup[MOST_UNDOS];
        int count;

        Past() {
            for (int i = 0; i < MOST_UNDOS; i++) {
                setups[i] = new Setup();
            }
        }

        void push(Setup now) {
            if (count >= MOST_UNDOS) {
                forgetOldest();
            }
            setups[count].copyFrom(now);
            count++;
        }

        /** The oldest setup's object goes to the end, so that it is used again. */
        private void forgetOldest() {
            Setup oldest = setups[0];
            for (int i = 1; i < MOST_UNDOS; i++) {
                setups[i - 1] = setups[i];
            }
            setups[MOST_UNDOS - 1] = oldest;
            count = MOST_UNDOS - 1;
        }

        void pop(Setup now) {
            if (count > 0) {
                count--;
                now.copyFrom(setups[count]);
            }
        }
    }

    /** Reads a text into a setup of its own, so that a text with an error leaves the desk's setup alone. */
    private static final class Parser {
        static final int END = 0;
        static final int WORD = 1;
        static final int NUMBER = 2;
        static final int SYMBOL = 3;
        // Above every number that a text may tell, and far from where ints wrap round.
        static final int HUGE = 100000;

        final Setup draft = new Setup();
        int code;
        int place = NONE;
        private final byte[] text = new byte[MOST_BYTES];
        private int length;
        private int kind;
        private int start;
        private int next;
        private int value;

        boolean parse(byte[] input, int inputLength) {
            System.arraycopy(input, 0, text, 0, MOST_BYTES);
            length = inputLength;
            next = 0;
            code = 0;
            place = NONE;
            draft.clear();
            advance();
            boolean good = readFrame();
            // Each statement has at least one byte, so there are no more of them than bytes.
            for (int i = 0; i < MOST_BYTES && good && kind != END; i++) {
                good = readStatement();
            }
            return good;
        }

        private boolean fail(int errorCode) {
            code = errorCode;
            place = start;
            return false;
        }

        private void advance() {
            while (next < length && (text[next] == ' ' || text[next] == '\n')) {
                next++;
            }
            start = next;
            value = 0;
            if (next >= length) {
                kind = END;
            } else if (isLetter(text[next])) {
                kind = WORD;
                while (next < length && isLetter(text[next])) {
                    next++;
                }
            } else if (isDigit(text[next])) {
                kind = NUMBER;
                while (next < length && isDigit(text[next])) {
                    value = Math.min(HUGE, value * 10 + text[next] - '0');
                    next++;
                }
            } else {
                kind = SYMBOL;
                next++;
            }
        }

        private static boolean isLetter(byte sign) {
            return sign >= 'a' && sign <= 'z';
        }

        private static boolean isDigit(byte sign) {
            return sign >= '0' && sign <= '9';
        }

        private boolean isWord(String word) {
            if (kind != WORD || next - start != word.length()) {
                return false;
            }
            for (int i = 0; i < word.length() && start + i < length; i++) {
                if (text[start + i] != word.charAt(i)) {
                    return false;
                }
            }
            return true;
        }

        private boolean passWord(String word) {
            if (!isWord(word)) {
                return fail(1);
            }
            advance();
            return true;
        }

        private boolean passEnd() {
            if (kind != SYMBOL || start >= length || text[start] != ';') {
                return fail(1);
            }
            advance();
            return true;
        }

        /** Looks at the token without passing it: it may have a further error, of a greater code. */
        private boolean checkNumber(int greatest) {
            if (kind != NUMBER) {
                return fail(1);
            }
            return value <= greatest || fail(2);
        }

        /** Answers the number, NONE if there is an error. */
        private int passNumber(int greatest) {
            if (!checkNumber(greatest)) {
                return NONE;
            }
            int number = value;
            advance();
            return number;
        }

        private boolean readFrame() {
            draft.capacity = passWord("capacity") ? passNumber(MOST_CAPACITY) : NONE;
            if (draft.capacity == NONE) {
                return false;
            }
            draft.limit = passWord("limit") ? passNumber(MOST_LIMIT) : NONE;
            return draft.limit != NONE && passEnd();
        }

        private boolean readStatement() {
            if (isWord("item")) {
                return readItem();
            }
            if (isWord("bar") || isWord("need")) {
                return readPair(isWord("bar"));
            }
            if (isWord("must") || isWord("never")) {
                return readSingle(isWord("must"));
            }
            return fail(1);
        }

        private boolean readItem() {
            if (draft.items >= MOST_ITEMS) {
                return fail(4);
            }
            advance();
            int weight = passWord("weight") ? passNumber(MOST_VALUE) : NONE;
            if (weight == NONE) {
                return false;
            }
            int gain = passWord("gain") ? passNumber(MOST_VALUE) : NONE;
            if (gain == NONE) {
                return false;
            }
            int joy = passWord("joy") ? passNumber(MOST_VALUE) : NONE;
            if (joy == NONE) {
                return false;
            }
            draft.addLast(weight, gain, joy);
            return passEnd();
        }

        private boolean readPair(boolean barred) {
            advance();
            int item = passNumber(draft.items - 1);
            if (item == NONE || !checkNumber(draft.items - 1)) {
                return false;
            }
            int other = value;
            int[] row = barred ? draft.bars : draft.needs;
            if (other == item || hasBit(row[item], other)) {
                return fail(3);
            }
            row[item] = withBit(row[item], other, true);
            if (barred) {
                row[other] = withBit(row[other], item, true);
            }
            advance();
            return passEnd();
        }

        private boolean readSingle(boolean wanted) {
            advance();
            if (!checkNumber(draft.items - 1)) {
                return false;
            }
            int set = wanted ? draft.mustSet : draft.neverSet;
            if (hasBit(set, value)) {
                return fail(3);
            }
            if (wanted) {
                draft.mustSet = withBit(set, value, true);
            } else {
                draft.neverSet = withBit(set, value, true);
            }
            advance();
            return passEnd();
        }
    }

    /** For each set of items its sums, and what bars it. */
    private static final class Choices {
        final int[] weight = new int[MOST_SETS];
        final int[] gain = new int[MOST_SETS];
        final int[] joy = new int[MOST_SETS];
        /** The items that some item of the set does not go with. */
        final int[] barred = new int[MOST_SETS];
        /** The items that some item of the set needs. */
        final int[] needed = new int[MOST_SETS];
        int sets;
        private int limit;
        private int mustSet;
        private int neverSet;

        void build(Setup setup) {
            limit = setup.limit;
            mustSet = setup.mustSet;
            neverSet = setup.neverSet;
            sets = 1;
            for (int item = 0; item < setup.items && item < MOST_ITEMS; item++) {
                // The sets with this item as their last one come behind all sets of the items before it.
                int high = 1 << item;
                for (int set = 0; set < high; set++) {
                    weight[high + set] = weight[set] + setup.weight[item];
                    gain[high + set] = gain[set] + setup.gain[item];
                    joy[high + set] = joy[set] + setup.joy[item];
                    barred[high + set] = barred[set] | setup.bars[item];
                    needed[high + set] = needed[set] | setup.needs[item];
                }
                sets = 2 * high;
            }
        }

        int reason(int set, int capacity) {
            return weight[set] > capacity ? 1 : reasonBesideWeight(set);
        }

        private int reasonBesideWeight(int set) {
            if (Integer.bitCount(set) > limit) {
                return 2;
            }
            if ((barred[set] & set) != 0) {
                return 3;
            }
            if ((needed[set] & ~set) != 0) {
                return 4;
            }
            if ((mustSet & ~set) != 0) {
                return 5;
            }
            return (neverSet & set) != 0 ? 6 : 0;
        }

        int leastWeight(int leastGain, int leastJoy) {
            int least = MOST_CAPACITY + 1;
            for (int set = 0; set < sets && set < MOST_SETS; set++) {
                if (weight[set] < least && gain[set] >= leastGain && joy[set] >= leastJoy
                        && reasonBesideWeight(set) == 0) {
                    least = weight[set];
                }
            }
            return least <= MOST_CAPACITY ? least : NONE;
        }
    }

    /** For each gain the joy of the point that has it, NONE where no point has it. */
    private static final class Stairs {
        final int[] joyAt = new int[SUMS];
        int allowedCount;

        /** Looks at the allowed choices that have no item of a set. */
        void build(Choices choices, int capacity, int without) {
            Arrays.fill(joyAt, NONE);
            allowedCount = 0;
            for (int set = 0; set < choices.sets && set < MOST_SETS; set++) {
                if ((set & without) == 0 && choices.reason(set, capacity) == 0) {
                    allowedCount++;
                    keepGreatest(choices.gain[set], choices.joy[set]);
                }
            }
            dropBeaten();
        }

        private void keepGreatest(int gain, int joy) {
            if (gain >= 0 && gain < SUMS && joy > joyAt[gain]) {
                joyAt[gain] = joy;
            }
        }

        private void dropBeaten() {
            int top = NONE;
            for (int gain = SUMS - 1; gain >= 0; gain--) {
                if (joyAt[gain] > top) {
                    top = joyAt[gain];
                } else {
                    joyAt[gain] = NONE;
                }
            }
        }

        int countCorners() {
            int count = 0;
            for (int gain = 0; gain < SUMS; gain++) {
                if (joyAt[gain] != NONE) {
                    count++;
                }
            }
            return count;
        }

        int areaBelow() {
            int area = 0;
            int before = 0;
            for (int gain = 0; gain < SUMS; gain++) {
                if (joyAt[gain] != NONE) {
                    area += (gain - before) * joyAt[gain];
                    before = gain;
                }
            }
            return area;
        }
    }

    /** The points and the vertices. */
    private static final class Frontier {
        final int[] gain = new int[SUMS];
        final int[] joy = new int[SUMS];
        final int[] choice = new int[SUMS];
        final int[] times = new int[SUMS];
        final int[] light = new int[SUMS];
        final int[] mark = new int[SUMS];
        final int[] vertexPoint = new int[SUMS];
        final int[] pointAt = new int[SUMS];
        final boolean[] reached = new boolean[SUMS];
        int size;
        int vertexCount;
        int allowedCount;
        int areaBelow;

        void build(Choices choices, int capacity, Stairs stairs) {
            allowedCount = stairs.allowedCount;
            areaBelow = stairs.areaBelow();
            readPoints(stairs);
            readChoices(choices, capacity);
            findVertices();
            markSupported();
        }

        private void readPoints(Stairs stairs) {
            size = 0;
            for (int at = 0; at < SUMS; at++) {
                pointAt[at] = NONE;
                if (stairs.joyAt[at] != NONE) {
                    gain[size] = at;
                    joy[size] = stairs.joyAt[at];
                    choice[size] = 0;
                    times[size] = 0;
                    light[size] = 0;
                    mark[size] = 0;
                    pointAt[at] = size;
                    size++;
                }
            }
        }

        private void readChoices(Choices choices, int capacity) {
            for (int set = 0; set < choices.sets && set < MOST_SETS; set++) {
                int point = pointWithPair(choices.gain[set], choices.joy[set]);
                if (point != NONE && choices.reason(set, capacity) == 0) {
                    if (times[point] == 0) {
                        choice[point] = set;
                        light[point] = set;
                    } else if (choices.weight[set] < choices.weight[light[point]]) {
                        light[point] = set;
                    }
                    times[point]++;
                }
            }
        }

        private void findVertices() {
            vertexCount = 0;
            for (int point = 0; point < size; point++) {
                // The latest vertex is none if it does not lie above the line from the one before it to this point.
                while (vertexCount >= 2
                        && heightOver(vertexPoint[vertexCount - 2], point, vertexPoint[vertexCount - 1]) <= 0) {
                    vertexCount--;
                }
                vertexPoint[vertexCount] = point;
                vertexCount++;
            }
        }

        /** Above 0 if a point lies above the line of two others, 0 if it lies on it. */
        private int heightOver(int first, int second, int point) {
            return gainWon(first, point) * joyLost(first, second) - joyLost(first, point) * gainWon(first, second);
        }

        private void markSupported() {
            for (int v = 0; v < vertexCount; v++) {
                mark[vertexPoint[v]] = VERTEX;
            }
            for (int v = 0; v + 1 < vertexCount; v++) {
                int first = vertexPoint[v];
                int second = vertexPoint[v + 1];
                for (int point = first + 1; point < second; point++) {
                    mark[point] = heightOver(first, second, point) == 0 ? SUPPORTED : 0;
                }
            }
        }

        int gainWon(int first, int second) {
            return gain[second] - gain[first];
        }

        int joyLost(int first, int second) {
            return joy[first] - joy[second];
        }

        int supportedBetween(int first, int second) {
            int count = 0;
            for (int point = first + 1; point < second && point < size; point++) {
                if (mark[point] >= SUPPORTED) {
                    count++;
                }
            }
            return count;
        }

        int pointWithPair(int itsGain, int itsJoy) {
            if (itsGain < 0 || itsGain >= SUMS) {
                return NONE;
            }
            int point = pointAt[itsGain];
            return point != NONE && joy[point] == itsJoy ? point : NONE;
        }

        boolean beats(int point, int itsGain, int itsJoy) {
            return gain[point] >= itsGain && joy[point] >= itsJoy && (gain[point] > itsGain || joy[point] > itsJoy);
        }

        int valueOf(int point, int p, int q) {
            return p * gain[point] + q * joy[point];
        }

        int greatestBy(int p, int q) {
            int greatest = NONE;
            int most = NONE;
            for (int point = 0; point < size; point++) {
                int value = valueOf(point, p, q);
                if (value > most) {
                    most = value;
                    greatest = point;
                }
            }
            return greatest;
        }

        int leastLack(int p, int q) {
            int nearest = NONE;
            int least = 0;
            for (int point = 0; point < size; point++) {
                int lack = Math.max(p * gainWon(point, size - 1), q * joyLost(0, point));
                if (nearest == NONE || lack < least) {
                    least = lack;
                    nearest = point;
                }
            }
            return nearest;
        }

        /** How many points are pairs of allowed choices that have no item of a set. */
        int countReached(Choices choices, int capacity, int without) {
            for (int point = 0; point < size; point++) {
                reached[point] = false;
            }
            int count = 0;
            for (int set = 0; set < choices.sets && set < MOST_SETS; set++) {
                int point = pointWithPair(choices.gain[set], choices.joy[set]);
                if ((set & without) == 0 && point != NONE && !reached[point]
                        && choices.reason(set, capacity) == 0) {
                    reached[point] = true;
                    count++;
                }
            }
            return count;
        }
    }

    /** The search that splits boxes: box number s of the queue is the one that leaves it in step s. */
    private static final class Search {
        final int[] from = new int[MOST_STEPS];
        final int[] to = new int[MOST_STEPS];
        final int[] found = new int[MOST_STEPS];
        int count;

        void run(Frontier frontier) {
            count = 0;
            if (frontier.size >= 2) {
                enqueue(0, frontier.size - 1);
            }
            for (int s = 0; s < count && s < MOST_STEPS; s++) {
                found[s] = findAbove(frontier, from[s], to[s]);
                if (found[s] != NONE) {
                    enqueue(from[s], found[s]);
                    enqueue(found[s], to[s]);
                }
            }
        }

        private void enqueue(int first, int second) {
            if (count < MOST_STEPS) {
                from[count] = first;
                to[count] = second;
                count++;
            }
        }

        private static int findAbove(Frontier frontier, int first, int second) {
            int p = frontier.joyLost(first, second);
            int q = frontier.gainWon(first, second);
            int point = frontier.greatestBy(p, q);
            boolean above = point != NONE && frontier.valueOf(point, p, q) > frontier.valueOf(first, p, q);
            return above ? point : NONE;
        }
    }

    /** Each pair lies one layer behind the last one of the pairs that beat it. */
    private static final class Layers {
        final int[] layer = new int[MOST_SETS];
        final int[] size = new int[MOST_LAYERS];
        int count;
        private final int[] topJoy = new int[MOST_LAYERS];
        private final int[] firstOfJoy = new int[SUMS];
        private final int[] nextOfJoy = new int[MOST_SETS];
        private final int[] firstOfGain = new int[SUMS];
        private final int[] nextOfGain = new int[MOST_SETS];

        void build(Choices choices, int capacity) {
            count = 0;
            sortByJoy(choices, capacity);
            sortByGain(choices);
            for (int gain = SUMS - 1; gain >= 0; gain--) {
                placeGain(choices, gain);
            }
        }

        private void sortByJoy(Choices choices, int capacity) {
            Arrays.fill(firstOfJoy, NONE);
            for (int set = 0; set < choices.sets && set < MOST_SETS; set++) {
                layer[set] = NONE;
                if (choices.reason(set, capacity) == 0) {
                    putAhead(set, choices.joy[set], firstOfJoy, nextOfJoy);
                }
            }
        }

        /** The lists of each gain then have descending joys, as the later ones are put ahead. */
        private void sortByGain(Choices choices) {
            Arrays.fill(firstOfGain, NONE);
            for (int joy = 0; joy < SUMS; joy++) {
                int set = firstOfJoy[joy];
                for (int i = 0; i < MOST_SETS && set != NONE; i++) {
                    putAhead(set, choices.gain[set], firstOfGain, nextOfGain);
                    set = nextOfJoy[set];
                }
            }
        }

        private static void putAhead(int set, int sum, int[] first, int[] next) {
            if (sum >= 0 && sum < SUMS) {
                next[set] = first[sum];
                first[sum] = set;
            }
        }

        private void placeGain(Choices choices, int gain) {
            int set = firstOfGain[gain];
            int joyBefore = NONE;
            int place = NONE;
            for (int i = 0; i < MOST_SETS && set != NONE; i++) {
                if (choices.joy[set] != joyBefore) {
                    joyBefore = choices.joy[set];
                    place = placePair(joyBefore);
                }
                layer[set] = place;
                set = nextOfGain[set];
            }
        }

        /** All pairs placed before have at least this gain: those of at least this joy beat this one. */
        private int placePair(int joy) {
            int place = firstLayerBelow(joy);
            if (place >= MOST_LAYERS) {
                return NONE;
            }
            if (place == count) {
                size[place] = 0;
                count++;
            }
            topJoy[place] = joy;
            size[place]++;
            return place;
        }

        /** The layers' greatest joys so far never ascend, so that halving finds the first one below. */
        private int firstLayerBelow(int joy) {
            int low = 0;
            int high = count;
            for (int i = 0; i < MOST_LAYERS && low < high; i++) {
                int middle = low + (high - low) / 2;
                if (topJoy[middle] >= joy) {
                    low = middle + 1;
                } else {
                    high = middle;
                }
            }
            return low;
        }
    }

    /** Climbing from the choice at hand. */
    private static final class Climber {
        int at;
        int steps;
        private int bestSet;
        private int bestValue;

        void run(Choices choices, Setup setup, int p, int q) {
            at = setup.hand;
            steps = 0;
            // Values ascend, so no choice comes twice.
            for (int i = 0; i < MOST_SETS; i++) {
                lookAround(choices, setup, p, q);
                if (bestValue <= value(choices, at, p, q)) {
                    return;
                }
                at = bestSet;
                steps++;
            }
        }

        private void lookAround(Choices choices, Setup setup, int p, int q) {
            bestSet = NONE;
            bestValue = NONE;
            for (int item = 0; item < setup.items; item++) {
                int turned = at ^ 1 << item;
                lookAt(choices, setup.capacity, turned, p, q);
                for (int other = 0; other < item; other++) {
                    if (hasBit(at, item) != hasBit(at, other)) {
                        lookAt(choices, setup.capacity, turned ^ 1 << other, p, q);
                    }
                }
            }
        }

        private void lookAt(Choices choices, int capacity, int set, int p, int q) {
            if (choices.reason(set, capacity) != 0) {
                return;
            }
            int value = value(choices, set, p, q);
            if (value > bestValue || value == bestValue && set < bestSet) {
                bestSet = set;
                bestValue = value;
            }
        }

        private static int value(Choices choices, int set, int p, int q) {
            return p * choices.gain[set] + q * choices.joy[set];
        }
    }

    /** The output buffer. */
    private static final class Output {
        final byte[] bytes = new byte[MOST_OUTPUT];
        int length;

        void put(int sign) {
            if (length < MOST_OUTPUT) {
                bytes[length] = (byte) sign;
                length++;
            }
        }

        void putNumber(int number) {
            int unit = 1;
            for (int i = 0; i < 9 && number / unit >= 10; i++) {
                unit *= 10;
            }
            for (int left = unit; left > 0; left /= 10) {
                put('0' + number / left % 10);
            }
        }
    }
}
