import java.util.ArrayList;
import java.util.HashMap;
import java.util.LinkedHashSet;
import java.util.List;
import java.util.Map;
import java.util.NoSuchElementException;
import java.util.Set;
import java.util.TreeMap;
import java.util.TreeSet;

/** The document once more, the long way: sets for rules, and each answer worked out from its definition. */
final class Reference {
    record Pair(int gain, int joy) {
        boolean beats(Pair other) {
            return gain >= other.gain && joy >= other.joy && (gain > other.gain || joy > other.joy);
        }

        int value(int p, int q) {
            return p * gain + q * joy;
        }
    }

    record Item(int weight, int gain, int joy) {
    }

    record Rule(int item, int other) {
    }

    static final class State {
        int capacity = 20;
        int limit = 12;
        List<Item> items = new ArrayList<>();
        Set<Rule> bars = new LinkedHashSet<>();
        Set<Rule> needs = new LinkedHashSet<>();
        Set<Integer> must = new TreeSet<>();
        Set<Integer> never = new TreeSet<>();
        Set<Integer> hand = new TreeSet<>();

        State copy() {
            State made = new State();
            made.capacity = capacity;
            made.limit = limit;
            made.items.addAll(items);
            made.bars.addAll(bars);
            made.needs.addAll(needs);
            made.must.addAll(must);
            made.never.addAll(never);
            made.hand.addAll(hand);
            return made;
        }
    }

    /** The pairs of allowed choices of a state, each with its choices by ascending masks. */
    private static final class View {
        final Map<Pair, List<Integer>> choicesOf = new HashMap<>();
        final List<Pair> points = new ArrayList<>();
        int allowed;
    }

    private State now = new State();
    private View cached;
    private List<List<Pair>> cachedLayers;
    private final List<State> past = new ArrayList<>();
    private final State[] slots = new State[2];
    private final StringBuilder input = new StringBuilder();
    private String output = "";
    private int code = 0;
    private int position = -1;

    // ---- input ----

    public int append(int a, int b, int c, int d, int e) {
        if (input.length() + 20 > 600) {
            throw new IllegalStateException();
        }
        for (int word : new int[] {a, b, c, d, e}) {
            for (int i = 3; i >= 0; i--) {
                input.append((char) (word >>> 8 * i & 255));
            }
        }
        return input.length();
    }

    public void truncate(int length) {
        if (length < 0 || length > input.length()) {
            throw new IllegalArgumentException();
        }
        input.setLength(length);
    }

    public int load() {
        ReferenceParser parser = new ReferenceParser(input.toString());
        State told = parser.parse();
        input.setLength(0);
        code = parser.code;
        position = parser.position;
        if (told == null) {
            return -4;
        }
        change();
        now = told;
        return now.items.size();
    }

    public int errorCode() {
        return code;
    }

    public int errorPosition() {
        return position;
    }

    // ---- items, rules and choices ----

    private static int mask(Set<Integer> set) {
        int mask = 0;
        for (int item : set) {
            mask += 1 << item;
        }
        return mask;
    }

    private static Set<Integer> setOf(int mask) {
        Set<Integer> set = new TreeSet<>();
        for (int i = 0; i < 12; i++) {
            if ((mask >> i) % 2 == 1) {
                set.add(i);
            }
        }
        return set;
    }

    private int items() {
        return now.items.size();
    }

    private void needItem(int item) {
        if (item < 0 || item >= items()) {
            throw new IndexOutOfBoundsException();
        }
    }

    private void needSet(int set) {
        if (set < 0 || set >= 1 << items()) {
            throw new IllegalArgumentException();
        }
    }

    private static void needRange(int value, int most) {
        if (value < 0 || value > most) {
            throw new IllegalArgumentException();
        }
    }

    private void needPoint(int point) {
        if (point < 0 || point >= points()) {
            throw new IndexOutOfBoundsException();
        }
    }

    private static void needWeights(int p, int q) {
        needRange(p, 99);
        needRange(q, 99);
        if (p + q == 0) {
            throw new IllegalArgumentException();
        }
    }

    public int property(int what) {
        needRange(what, 7);
        return List.of(items(), now.capacity, now.limit, now.bars.size(), now.needs.size(), mask(now.must),
            mask(now.never), mask(now.hand)).get(what);
    }

    public int item(int item, int what) {
        needItem(item);
        needRange(what, 4);
        Item it = now.items.get(item);
        Set<Integer> barred = new TreeSet<>();
        for (Rule bar : now.bars) {
            if (bar.item == item) {
                barred.add(bar.other);
            }
            if (bar.other == item) {
                barred.add(bar.item);
            }
        }
        Set<Integer> needed = new TreeSet<>();
        for (Rule need : now.needs) {
            if (need.item == item) {
                needed.add(need.other);
            }
        }
        return List.of(it.weight, it.gain, it.joy, mask(barred), mask(needed)).get(what);
    }

    private static int refusalIn(State state, int mask) {
        Set<Integer> set = setOf(mask);
        int weight = 0;
        for (int item : set) {
            weight += state.items.get(item).weight;
        }
        if (weight > state.capacity) {
            return 1;
        }
        if (set.size() > state.limit) {
            return 2;
        }
        for (Rule bar : state.bars) {
            if (set.contains(bar.item) && set.contains(bar.other)) {
                return 3;
            }
        }
        for (Rule need : state.needs) {
            if (set.contains(need.item) && !set.contains(need.other)) {
                return 4;
            }
        }
        if (!set.containsAll(state.must)) {
            return 5;
        }
        for (int item : set) {
            if (state.never.contains(item)) {
                return 6;
            }
        }
        return 0;
    }

    public int refusal(int set) {
        needSet(set);
        return refusalIn(now, set);
    }

    public int sum(int set, int what) {
        needSet(set);
        needRange(what, 2);
        int sum = 0;
        for (int item : setOf(set)) {
            Item it = now.items.get(item);
            sum += what == 0 ? it.weight : what == 1 ? it.gain : it.joy;
        }
        return sum;
    }

    private static Pair pairIn(State state, int set) {
        int gain = 0;
        int joy = 0;
        for (int item : setOf(set)) {
            gain += state.items.get(item).gain;
            joy += state.items.get(item).joy;
        }
        return new Pair(gain, joy);
    }

    private static View viewOf(State state) {
        View view = new View();
        for (int set = 0; set < 1 << state.items.size(); set++) {
            if (refusalIn(state, set) == 0) {
                view.allowed++;
                view.choicesOf.computeIfAbsent(pairIn(state, set), pair -> new ArrayList<>()).add(set);
            }
        }
        view.points.addAll(unbeaten(view.choicesOf.keySet()));
        return view;
    }

    private static List<Pair> unbeaten(Set<Pair> pairs) {
        Map<Integer, Pair> byGain = new TreeMap<>();
        for (Pair pair : pairs) {
            boolean beaten = false;
            for (Pair other : pairs) {
                if (other.beats(pair)) {
                    beaten = true;
                    break;
                }
            }
            if (!beaten) {
                byGain.put(pair.gain, pair);
            }
        }
        return new ArrayList<>(byGain.values());
    }

    private View view() {
        if (cached == null) {
            cached = viewOf(now);
        }
        return cached;
    }

    private Pair at(int point) {
        return view().points.get(point);
    }

    private int choiceOf(int point) {
        return view().choicesOf.get(at(point)).get(0);
    }

    public int allowed() {
        return view().allowed;
    }

    // ---- points ----

    public int points() {
        return view().points.size();
    }

    /** 2 if for some p and q above 0 all others have less, 1 if none has more, otherwise 0. */
    private int standing(int point) {
        Pair it = at(point);
        // With q = 1, p must be at least low (a fraction) and at most high; where there is no bound, 0 and above.
        long lowUp = 0;
        long lowDown = 1;
        boolean bounded = false;
        long highUp = 0;
        long highDown = 1;
        for (Pair other : view().points) {
            long gain = Math.abs(other.gain - it.gain);
            long joy = Math.abs(other.joy - it.joy);
            if (other.gain < it.gain && joy * lowDown > lowUp * gain) {
                lowUp = joy;
                lowDown = gain;
            }
            if (other.gain > it.gain && (!bounded || joy * highDown < highUp * gain)) {
                bounded = true;
                highUp = joy;
                highDown = gain;
            }
        }
        if (!bounded || lowUp * highDown < highUp * lowDown) {
            return 2;
        }
        return lowUp * highDown == highUp * lowDown ? 1 : 0;
    }

    public int point(int point, int what) {
        needPoint(point);
        needRange(what, 6);
        switch (what) {
            case 0: return at(point).gain;
            case 1: return at(point).joy;
            case 2: return choiceOf(point);
            case 3: return view().choicesOf.get(at(point)).size();
            case 4: return sum(choiceOf(point), 0);
            case 5: return standing(point) > 0 ? 1 : 0;
            default: return standing(point) > 1 ? 1 : 0;
        }
    }

    public int lightest(int point) {
        needPoint(point);
        int light = choiceOf(point);
        for (int set : view().choicesOf.get(at(point))) {
            if (sum(set, 0) < sum(light, 0)) {
                light = set;
            }
        }
        return light;
    }

    public int pointOf(int set) {
        needSet(set);
        return view().points.indexOf(pairIn(now, set));
    }

    public int beatenBy(int set) {
        needSet(set);
        for (int i = 0; i < points(); i++) {
            if (at(i).beats(pairIn(now, set))) {
                return i;
            }
        }
        return -1;
    }

    public int beating(int gain, int joy) {
        return (int) view().points.stream().filter(point -> point.beats(new Pair(gain, joy))).count();
    }

    public int joyFor(int gain) {
        return view().points.stream().filter(point -> point.gain >= gain).mapToInt(Pair::joy).max().orElse(-1);
    }

    public int gainFor(int joy) {
        return view().points.stream().filter(point -> point.joy >= joy).mapToInt(Pair::gain).max().orElse(-1);
    }

    private int greatest(int p, int q) {
        int best = -1;
        for (int i = 0; i < points(); i++) {
            if (best < 0 || at(i).value(p, q) > at(best).value(p, q)) {
                best = i;
            }
        }
        return best;
    }

    public int best(int p, int q) {
        needWeights(p, q);
        return greatest(p, q);
    }

    public int nearest(int p, int q) {
        needWeights(p, q);
        int nearest = -1;
        int least = Integer.MAX_VALUE;
        for (int i = 0; i < points(); i++) {
            int gain = p * (gainFor(-1) - at(i).gain);
            int joy = q * (joyFor(-1) - at(i).joy);
            if (Math.max(gain, joy) < least) {
                least = Math.max(gain, joy);
                nearest = i;
            }
        }
        return nearest;
    }

    // ---- vertices, boxes and the search ----

    private List<Integer> vertexList() {
        List<Integer> list = new ArrayList<>();
        for (int i = 0; i < points(); i++) {
            if (standing(i) == 2) {
                list.add(i);
            }
        }
        return list;
    }

    public int vertices() {
        return vertexList().size();
    }

    public int vertex(int index) {
        if (index < 0 || index >= vertices()) {
            throw new IndexOutOfBoundsException();
        }
        return vertexList().get(index);
    }

    public int supported() {
        int count = 0;
        for (int i = 0; i < points(); i++) {
            count += standing(i) > 0 ? 1 : 0;
        }
        return count;
    }

    public int box(int box, int what) {
        if (box < 0 || box + 1 >= vertices()) {
            throw new IndexOutOfBoundsException();
        }
        needRange(what, 4);
        int first = vertex(box);
        int second = vertex(box + 1);
        int between = 0;
        int held = 0;
        int gain = -1;
        for (int i = first + 1; i < second; i++) {
            between++;
            held += standing(i) > 0 ? 1 : 0;
            gain = Math.max(gain, at(i).gain);
        }
        return List.of(first, second, between, held, gain).get(what);
    }

    private List<int[]> searched() {
        List<int[]> steps = new ArrayList<>();
        List<int[]> queue = new ArrayList<>();
        if (points() > 1) {
            queue.add(new int[] {0, points() - 1});
        }
        while (!queue.isEmpty()) {
            int[] box = queue.remove(0);
            int p = at(box[0]).joy - at(box[1]).joy;
            int q = at(box[1]).gain - at(box[0]).gain;
            int k = greatest(p, q);
            if (at(k).value(p, q) > at(box[0]).value(p, q)) {
                queue.add(new int[] {box[0], k});
                queue.add(new int[] {k, box[1]});
            } else {
                k = -1;
            }
            steps.add(new int[] {box[0], box[1], p, q, k});
        }
        return steps;
    }

    public int steps() {
        return searched().size();
    }

    public int step(int step, int what) {
        needRange(what, 4);
        if (step < 0 || step >= steps()) {
            throw new NoSuchElementException();
        }
        return searched().get(step)[what];
    }

    public int fullest() {
        int fullest = -1;
        for (int i = 0; i + 1 < vertices(); i++) {
            if (fullest < 0 || box(i, 2) > box(fullest, 2)) {
                fullest = i;
            }
        }
        return fullest;
    }

    // ---- the shape of the frontier ----

    private static int areaOf(List<Pair> points) {
        int area = 0;
        for (int gain = 1; gain <= 1188; gain++) {
            int joy = 0;
            for (Pair point : points) {
                joy = point.gain >= gain ? Math.max(joy, point.joy) : joy;
            }
            area += joy;
        }
        return area;
    }

    public int area() {
        return areaOf(view().points);
    }

    public int knee() {
        if (points() < 2) {
            return -1;
        }
        int last = points() - 1;
        int p = at(0).joy - at(last).joy;
        int q = at(last).gain - at(0).gain;
        int knee = -1;
        int most = at(0).value(p, q);
        for (int i = 1; i < last; i++) {
            if (at(i).value(p, q) > most) {
                most = at(i).value(p, q);
                knee = i;
            }
        }
        return knee;
    }

    public int gap() {
        int gap = -1;
        int most = -1;
        for (int i = 0; i + 1 < points(); i++) {
            int product = Math.abs(at(i).gain - at(i + 1).gain) * Math.abs(at(i).joy - at(i + 1).joy);
            if (product > most) {
                most = product;
                gap = i;
            }
        }
        return gap;
    }

    public int core() {
        Set<Integer> core = new TreeSet<>();
        for (int item = 0; item < items() && points() > 0; item++) {
            boolean always = true;
            for (int i = 0; i < points(); i++) {
                always &= setOf(choiceOf(i)).contains(item);
            }
            if (always) {
                core.add(item);
            }
        }
        return mask(core);
    }

    public int unused() {
        Set<Integer> unused = new TreeSet<>();
        for (int item = 0; item < items(); item++) {
            unused.add(item);
        }
        for (int i = 0; i < points(); i++) {
            unused.removeAll(setOf(choiceOf(i)));
        }
        return mask(unused);
    }

    // ---- what single items and other capacities are worth ----

    public int lostWithout(int item) {
        needItem(item);
        int lost = 0;
        for (Pair point : view().points) {
            boolean reached = false;
            for (int set : view().choicesOf.get(point)) {
                reached |= !setOf(set).contains(item);
            }
            lost += reached ? 0 : 1;
        }
        return lost;
    }

    public int worth(int item) {
        needItem(item);
        if (allowed() == 0) {
            return 0;
        }
        State without = now.copy();
        without.never.add(item);
        View view = viewOf(without);
        return view.allowed == 0 ? -1 : area() - areaOf(view.points);
    }

    public int pointsWith(int capacity) {
        needRange(capacity, 999);
        State other = now.copy();
        other.capacity = capacity;
        return viewOf(other).points.size();
    }

    public int capacityFor(int gain, int joy) {
        State other = now.copy();
        other.capacity = 2000;
        List<Integer> weights = new ArrayList<>();
        for (int set = 0; set < 1 << items(); set++) {
            Pair pair = pairIn(now, set);
            if (pair.gain >= gain && pair.joy >= joy && refusalIn(other, set) == 0) {
                weights.add(sum(set, 0));
            }
        }
        for (int capacity = 0; capacity <= 999; capacity++) {
            for (int weight : weights) {
                if (weight <= capacity) {
                    return capacity;
                }
            }
        }
        return -1;
    }

    // ---- distances, layers, climbing ----

    private static int differing(int set, int other) {
        Set<Integer> all = setOf(set);
        all.addAll(setOf(other));
        Set<Integer> both = setOf(set);
        both.retainAll(setOf(other));
        return all.size() - both.size();
    }

    public int nearTo(int set) {
        needSet(set);
        int near = -1;
        for (int i = 0; i < points(); i++) {
            if (near < 0 || differing(choiceOf(i), set) < differing(choiceOf(near), set)) {
                near = i;
            }
        }
        return near;
    }

    public int apart(int point, int other) {
        needPoint(point);
        needPoint(other);
        return differing(choiceOf(point), choiceOf(other));
    }

    private List<List<Pair>> layerList() {
        if (cachedLayers == null) {
            cachedLayers = new ArrayList<>();
            Set<Pair> left = new LinkedHashSet<>(view().choicesOf.keySet());
            while (!left.isEmpty()) {
                List<Pair> layer = unbeaten(left);
                cachedLayers.add(layer);
                left.removeAll(new LinkedHashSet<>(layer));
            }
        }
        return cachedLayers;
    }

    public int layers() {
        return layerList().size();
    }

    public int layerSize(int layer) {
        if (layer < 0 || layer >= layers()) {
            throw new IndexOutOfBoundsException();
        }
        return layerList().get(layer).size();
    }

    public int layerOf(int set) {
        if (refusal(set) != 0) {
            return -1;
        }
        for (int i = 0; i < layers(); i++) {
            if (layerList().get(i).contains(pairIn(now, set))) {
                return i;
            }
        }
        throw new AssertionError("no layer");
    }

    private List<Integer> way(int p, int q) {
        List<Integer> way = new ArrayList<>();
        int at = mask(now.hand);
        while (true) {
            way.add(at);
            int next = -1;
            for (int set = 0; set < 1 << items(); set++) {
                int differing = differing(at, set);
                boolean near = differing == 1 || differing == 2 && setOf(at).size() == setOf(set).size();
                if (near && refusalIn(now, set) == 0
                        && (next < 0 || pairIn(now, set).value(p, q) > pairIn(now, next).value(p, q))) {
                    next = set;
                }
            }
            if (next < 0 || pairIn(now, next).value(p, q) <= pairIn(now, at).value(p, q)) {
                return way;
            }
            at = next;
        }
    }

    public int climb(int p, int q) {
        needWeights(p, q);
        List<Integer> way = way(p, q);
        return way.get(way.size() - 1);
    }

    public double share() {
        return allowed() == 0 ? 0.0 : (double) points() / allowed();
    }

    // ---- changes ----

    private void change() {
        past.add(now.copy());
        if (past.size() > 8) {
            past.remove(0);
        }
        forget();
    }

    private void forget() {
        cached = null;
        cachedLayers = null;
    }

    public int addItem(int weight, int gain, int joy) {
        needRange(weight, 99);
        needRange(gain, 99);
        needRange(joy, 99);
        if (items() == 12) {
            throw new IllegalStateException();
        }
        change();
        now.items.add(new Item(weight, gain, joy));
        return items() - 1;
    }

    private static Set<Integer> dropFrom(Set<Integer> set, int item) {
        Set<Integer> made = new TreeSet<>();
        for (int one : set) {
            if (one != item) {
                made.add(one > item ? one - 1 : one);
            }
        }
        return made;
    }

    private static Set<Rule> dropRules(Set<Rule> rules, int item) {
        Set<Rule> made = new LinkedHashSet<>();
        for (Rule rule : rules) {
            if (rule.item != item && rule.other != item) {
                made.add(new Rule(rule.item > item ? rule.item - 1 : rule.item,
                    rule.other > item ? rule.other - 1 : rule.other));
            }
        }
        return made;
    }

    public int dropItem(int item) {
        needItem(item);
        change();
        now.items.remove(item);
        now.bars = dropRules(now.bars, item);
        now.needs = dropRules(now.needs, item);
        now.must = dropFrom(now.must, item);
        now.never = dropFrom(now.never, item);
        now.hand = dropFrom(now.hand, item);
        return items();
    }

    public int setItem(int item, int what, int value) {
        needItem(item);
        needRange(what, 2);
        needRange(value, 99);
        change();
        Item it = now.items.get(item);
        now.items.set(item, new Item(what == 0 ? value : it.weight, what == 1 ? value : it.gain,
            what == 2 ? value : it.joy));
        return what == 0 ? it.weight : what == 1 ? it.gain : it.joy;
    }

    public int setCapacity(int capacity) {
        needRange(capacity, 999);
        change();
        int before = now.capacity;
        now.capacity = capacity;
        return before;
    }

    public int setLimit(int limit) {
        needRange(limit, 12);
        change();
        int before = now.limit;
        now.limit = limit;
        return before;
    }

    private <T> boolean turn(Set<T> set, T element, boolean on) {
        change();
        boolean before = set.contains(element);
        if (on) {
            set.add(element);
        } else {
            set.remove(element);
        }
        return before;
    }

    private void needTwo(int item, int other) {
        needItem(item);
        needItem(other);
        if (item == other) {
            throw new IllegalArgumentException();
        }
    }

    public boolean bar(int item, int other, boolean on) {
        needTwo(item, other);
        return turn(now.bars, new Rule(Math.min(item, other), Math.max(item, other)), on);
    }

    public boolean need(int item, int other, boolean on) {
        needTwo(item, other);
        return turn(now.needs, new Rule(item, other), on);
    }

    public boolean must(int item, boolean on) {
        needItem(item);
        return turn(now.must, item, on);
    }

    public boolean never(int item, boolean on) {
        needItem(item);
        return turn(now.never, item, on);
    }

    // ---- the choice at hand ----

    private int handle(int set) {
        int before = mask(now.hand);
        change();
        now.hand = setOf(set);
        return before;
    }

    public int choose(int set) {
        if (refusal(set) != 0) {
            throw new IllegalStateException();
        }
        return handle(set);
    }

    public int chooseBest(int p, int q) {
        int point = best(p, q);
        if (point < 0) {
            throw new IllegalStateException();
        }
        handle(choiceOf(point));
        return mask(now.hand);
    }

    public int improve(int p, int q) {
        needWeights(p, q);
        List<Integer> way = way(p, q);
        handle(way.get(way.size() - 1));
        return way.size() - 1;
    }

    private int move(int item, boolean in) {
        needItem(item);
        Set<Integer> set = new TreeSet<>(now.hand);
        boolean moved = in ? set.add(item) : set.remove(item);
        if (!moved || refusalIn(now, mask(set)) != 0) {
            throw new IllegalStateException();
        }
        handle(mask(set));
        return sum(mask(set), 0);
    }

    public int take(int item) {
        return move(item, true);
    }

    public int leave(int item) {
        return move(item, false);
    }

    // ---- slots, undo, output ----

    private void needSlot(int slot) {
        if (slot != 0 && slot != 1) {
            throw new IndexOutOfBoundsException();
        }
    }

    public int keep(int slot) {
        needSlot(slot);
        slots[slot] = now.copy();
        return items();
    }

    public int restore(int slot) {
        needSlot(slot);
        if (slots[slot] == null) {
            throw new IllegalStateException();
        }
        change();
        now = slots[slot].copy();
        return items();
    }

    public int undo() {
        if (past.isEmpty()) {
            throw new IllegalStateException();
        }
        now = past.remove(past.size() - 1);
        forget();
        return past.size();
    }

    public int undoCount() {
        return past.size();
    }

    public int writeFrontier() {
        List<String> parts = new ArrayList<>();
        for (int i = 0; i < points(); i++) {
            parts.add(at(i).gain + "," + at(i).joy + ".+!".charAt(standing(i)));
        }
        output = String.join(" ", parts);
        return output.length();
    }

    public int writeChoices() {
        StringBuilder text = new StringBuilder();
        for (int i = 0; i < points(); i++) {
            for (int item = 0; item < items(); item++) {
                text.append(setOf(choiceOf(i)).contains(item) ? 1 : 0);
            }
            text.append('\n');
        }
        output = text.toString();
        return output.length();
    }

    public int outputByte(int index) {
        if (index < 0 || index >= output.length()) {
            throw new IndexOutOfBoundsException();
        }
        return output.charAt(index);
    }
}
