import java.util.NoSuchElementException;

/** The sentences of the document that name no boundary case: what is told, what each call answers, what it takes. */
public final class PlainSentencesTest {
    private interface Numbers {
        long of(int number);
    }

    private static final String HEAD = "capacity 9 limit 9;";
    private static final String ITEM = "item weight 1 gain 2 joy 3;";
    private static final int[] WEIGHTS = {0, 1, 2, 3, 4, 5, 7, 9, 20, 33, 49, 50, 51, 66, 98, 99};

    public static void main(String[] args) {
        callsOfOneObject();
        statementCapacity();
        statementsOfPairs();
        statementsOfSingles();
        fromLeftToRight();
        bitMask();
        valueOfAPoint();
        nearestByWeights();
        boxBetweenVertices();
        stepsOfTheSearch();
        whichException();
        constants();
        bytesOfTheInput();
        theParseError();
        rowsOfTheQuestions();
        rowsOfTheFrontier();
        pairsBelowThePoints();
        additions();
        previousOnes();
        fromNowOn();
        choiceAtHand();
        slots();
        outputBytes();
        numbersOfItems();
        numbersOfPoints();
        setsOfItems();
        weights();
        capacitiesAndLimits();
        anyNumbers();
        Checks.end("PlainSentencesTest");
    }

    // ---- sections ----

    private static void callsOfOneObject() {
        Checks.sentence("## What it is", "An object is used for at most 512 calls after it has been made;");
        ParetoDesk desk = new ParetoDesk();
        for (int call = 1; call <= 512; call += 4) {
            int added = desk.addItem(call % 100, call % 100, 99 - call % 100);
            Checks.same("addItem(), call " + call, added, 0);
            Checks.same("setCapacity(), call " + (call + 1), desk.setCapacity(99), 20);
            Checks.same("dropItem(), call " + (call + 2), desk.dropItem(0), 0);
            Checks.same("setCapacity(), call " + (call + 3), desk.setCapacity(20), 99);
        }
        ParetoDesk asked = Desks.ofPairs(0, 3, 3, 0);
        for (int call = 4; call <= 512; call++) {
            Checks.same("points(), call " + call, asked.points(), 2);
        }
    }

    private static void statementCapacity() {
        Checks.sentence("1. INPUT", "The statements are: capacity N limit N the capacity, 0 to 999; how many items a choice may have,");
        ParetoDesk desk = Checks.deskOf("capacity 17 limit 3;");
        Checks.same("the capacity", desk.property(1), 17);
        Checks.same("the limit", desk.property(2), 3);
    }

    private static void statementsOfPairs() {
        Checks.sentence("1. INPUT", "bar ITEM ITEM two items that do not go together");
        Checks.sentence("1. INPUT", "ITEM is the number of an item told ahead.");
        ParetoDesk barred = Checks.deskOf(HEAD + ITEM.repeat(3) + "bar 0 2;");
        int[] bars = {4, 0, 1};
        int[] refusals = {0, 0, 0, 0, 0, 3, 0, 3};
        for (int item = 0; item < 3; item++) {
            Checks.same(Desks.named("item", item, 3), barred.item(item, 3), bars[item]);
            Checks.same(Desks.named("item", item, 4), barred.item(item, 4), 0);
        }
        for (int set = 0; set < 8; set++) {
            Checks.same(Desks.named("refusal", set), barred.refusal(set), refusals[set]);
        }
        Checks.sentence("1. INPUT", "need ITEM ITEM the first item needs the second one");
        ParetoDesk needing = Checks.deskOf(HEAD + ITEM.repeat(3) + "need 0 2;");
        int[] needs = {4, 0, 0};
        int[] wanting = {0, 4, 0, 4, 0, 0, 0, 0};
        for (int item = 0; item < 3; item++) {
            Checks.same(Desks.named("item", item, 4), needing.item(item, 4), needs[item]);
            Checks.same(Desks.named("item", item, 3), needing.item(item, 3), 0);
        }
        for (int set = 0; set < 8; set++) {
            Checks.same(Desks.named("refusal", set), needing.refusal(set), wanting[set]);
        }
    }

    private static void statementsOfSingles() {
        Checks.sentence("1. INPUT", "must ITEM an item that each choice must have");
        ParetoDesk wanted = Checks.deskOf(HEAD + ITEM.repeat(2) + "must 1;");
        int[] without = {5, 5, 0, 0};
        for (int set = 0; set < 4; set++) {
            Checks.same(Desks.named("refusal", set), wanted.refusal(set), without[set]);
        }
        Checks.same("property(5)", wanted.property(5), 2);
        Checks.same("property(6)", wanted.property(6), 0);
        Checks.sentence("1. INPUT", "never ITEM an item that no choice may have");
        ParetoDesk unwanted = Checks.deskOf(HEAD + ITEM.repeat(2) + "never 1;");
        int[] with = {0, 0, 6, 6};
        for (int set = 0; set < 4; set++) {
            Checks.same(Desks.named("refusal", set), unwanted.refusal(set), with[set]);
        }
        Checks.same("property(5)", unwanted.property(5), 0);
        Checks.same("property(6)", unwanted.property(6), 2);
    }

    private static void fromLeftToRight() {
        Checks.sentence("1. INPUT", "The parser reads tokens from left to right and stops at the first token that has an error;");
        // Each text has an error of each code; the one that is told is the first one.
        String[] errors = {"must;", "must 12;", "must 0; must 0;", ITEM};
        int[] codes = {1, 2, 3, 4};
        int[] places = {4, 5, 13, 0};
        String start = HEAD + ITEM.repeat(12);
        for (int first = 0; first < errors.length; first++) {
            StringBuilder text = new StringBuilder(start).append(errors[first]);
            for (int next = 0; next < errors.length; next++) {
                text.append(next == first ? "" : errors[next]);
            }
            ParetoDesk desk = Checks.deskOf(text.toString());
            Checks.same("errorCode() of errors from " + codes[first], desk.errorCode(), codes[first]);
            Checks.same("errorPosition() of it", desk.errorPosition(), start.length() + places[first]);
        }
    }

    private static void bitMask() {
        Checks.sentence("2. CHOICES", "A choice is a set of items, a bit mask in which bit i stands for item i.");
        ParetoDesk desk = new ParetoDesk();
        for (int i = 0; i < 12; i++) {
            desk.addItem(i, 2 * i + 1, 3 * i + 2);
        }
        for (int i = 0; i < 12; i++) {
            Checks.same(Desks.named("sum", 1 << i, 0), desk.sum(1 << i, 0), i);
            Checks.same(Desks.named("sum", 1 << i, 1), desk.sum(1 << i, 1), 2 * i + 1);
            Checks.same(Desks.named("sum", 1 << i, 2), desk.sum(1 << i, 2), 3 * i + 2);
            desk.take(i);
            Checks.same("the choice at hand with item " + i, desk.property(7), 1 << i);
            desk.leave(i);
        }
    }

    private static void valueOfAPoint() {
        Checks.sentence("3. FRONTIER", "The value of a point by weights p and q is p * gain + q * joy.");
        ParetoDesk desk = Desks.eight();
        int[][] points = {{0, 12}, {2, 11}, {4, 10}, {5, 8}, {6, 7}, {7, 5}, {8, 4}, {9, 0}};
        for (int p : WEIGHTS) {
            for (int q : WEIGHTS) {
                int due = 0;
                for (int point = 1; point < points.length; point++) {
                    int value = p * points[point][0] + q * points[point][1];
                    due = value > p * points[due][0] + q * points[due][1] ? point : due;
                }
                if (p + q > 0) {
                    Checks.same(Desks.named("best", p, q), desk.best(p, q), due);
                }
            }
        }
    }

    private static void nearestByWeights() {
        Checks.sentence("Promise 21", "Returns the point for which the greater one of p times what its gain lacks to the greatest gain, and"
            + " q times what its joy lacks to the greatest joy, is least, the lowest one of several;");
        ParetoDesk desk = Desks.eight();
        int[][] lacks = {{9, 0}, {7, 1}, {5, 2}, {4, 4}, {3, 5}, {2, 7}, {1, 8}, {0, 12}};
        for (int p : WEIGHTS) {
            for (int q : WEIGHTS) {
                int due = 0;
                for (int point = 1; point < lacks.length; point++) {
                    int lack = Math.max(p * lacks[point][0], q * lacks[point][1]);
                    due = lack < Math.max(p * lacks[due][0], q * lacks[due][1]) ? point : due;
                }
                if (p + q > 0) {
                    Checks.same(Desks.named("nearest", p, q), desk.nearest(p, q), due);
                }
            }
        }
    }

    private static void boxBetweenVertices() {
        Checks.sentence("3. FRONTIER", "A box is what lies between one vertex and the next one.");
        for (ParetoDesk desk : new ParetoDesk[] {Desks.eight(), Desks.line(), Desks.ofPairs(0, 9, 1, 6, 2, 4, 5, 3, 6, 0)}) {
            int boxes = desk.vertices() - 1;
            for (int box = 0; box < boxes; box++) {
                Checks.same(Desks.named("box", box, 0), desk.box(box, 0), desk.vertex(box));
                Checks.same(Desks.named("box", box, 1), desk.box(box, 1), desk.vertex(box + 1));
                for (int point = desk.box(box, 0) + 1; point < desk.box(box, 1); point++) {
                    Checks.same("a vertex in " + Desks.named("box", box), desk.point(point, 6), 0);
                }
            }
            Checks.outOfBounds("one box more", () -> desk.box(boxes, 0));
        }
    }

    /** The steps are those of the points 0,12 2,11 4,10 5,8 6,7 7,5 8,4 9,0. */
    private static void stepsOfTheSearch() {
        Checks.sentence("3. FRONTIER", "The search: boxes are held in a queue, at first that of the first and the last point,");
        Checks.sentence("3. FRONTIER", "In each step the first box, of points i and j, leaves the queue;");
        int[][] due = {{0, 7, 12, 9, 2}, {0, 2, 2, 4, -1}, {2, 7, 10, 5, 6}, {2, 6, 6, 4, -1}, {6, 7, 4, 1, -1}};
        ParetoDesk desk = Desks.eight();
        Checks.same("steps()", desk.steps(), due.length);
        for (int step = 0; step < due.length; step++) {
            Checks.same(Desks.named("step", step, 0), desk.step(step, 0), due[step][0]);
            Checks.same(Desks.named("step", step, 1), desk.step(step, 1), due[step][1]);
        }
        Checks.sentence("3. FRONTIER", "p is joy of i less joy of j, q is gain of j less gain of i.");
        for (int step = 0; step < due.length; step++) {
            Checks.same(Desks.named("step", step, 2), desk.step(step, 2), due[step][2]);
            Checks.same(Desks.named("step", step, 3), desk.step(step, 3), due[step][3]);
        }
        Checks.sentence("3. FRONTIER", "If some point has a greater value than i by these weights, the step finds the one of the greatest"
            + " value,");
        for (int step = 0; step < due.length; step++) {
            Checks.same(Desks.named("step", step, 4), desk.step(step, 4), due[step][4]);
        }
        Checks.sentence("Promise 27", "`what`: 0 the point i, 1 the point j, 2 p, 3 q, 4 the point that it finds, NONE if it finds none"
            + " Returns that number.");
        ParetoDesk two = Desks.ofPairs(1, 9, 5, 2);
        int[] only = {0, 1, 7, 4, -1};
        for (int what = 0; what < only.length; what++) {
            Checks.same(Desks.named("step", 0, what) + " of two points", two.step(0, what), only[what]);
        }
    }

    private static void whichException() {
        Checks.sentence("EXCEPTIONS", "An item, point, vertex, box or slot that does not exist causes an IndexOutOfBoundsException;");
        ParetoDesk desk = Desks.ofPairs(0, 3, 3, 0);
        for (int number : new int[] {2, -1}) {
            Checks.outOfBounds("an item", () -> desk.item(number, 0));
            Checks.outOfBounds("a point", () -> desk.point(number, 0));
            Checks.outOfBounds("a vertex", () -> desk.vertex(number));
            Checks.outOfBounds("a box", () -> desk.box(number, 0));
            Checks.outOfBounds("a slot", () -> desk.keep(number));
        }
        Checks.outOfBounds("a box of two vertices", () -> desk.box(1, 0));
        Checks.sentence("EXCEPTIONS", "another value that is out of range causes an IllegalArgumentException");
        Checks.badArgument("a set", () -> desk.refusal(4));
        Checks.badArgument("what", () -> desk.property(8));
        Checks.badArgument("a weight p", () -> desk.best(100, 1));
        Checks.badArgument("a capacity", () -> desk.setCapacity(1000));
        Checks.badArgument("a limit", () -> desk.setLimit(13));
        Checks.badArgument("a value", () -> desk.setItem(0, 0, 100));
        Checks.badArgument("a length", () -> desk.truncate(1));
        Checks.sentence("EXCEPTIONS", "If several exceptions apply, the one that is named first in the method's throws clause is thrown.");
        Checks.outOfBounds("an item and what", () -> desk.item(2, 5));
        Checks.badArgument("what and a step", () -> desk.step(9, 5));
        Checks.throwing("a step alone", NoSuchElementException.class, () -> desk.step(9, 4));
    }

    private static void constants() {
        Checks.sentence("EXCEPTIONS", "The constants: `NONE = -1`: No such value.");
        Checks.same("NONE", ParetoDesk.NONE, -1);
        Checks.same("joyFor() of what none has", new ParetoDesk().joyFor(1), ParetoDesk.NONE);
        Checks.sentence("EXCEPTIONS", "`PARSE_ERROR = -4`: The text has a parse error.");
        Checks.same("PARSE_ERROR", ParetoDesk.PARSE_ERROR, -4);
        Checks.same("load() of an empty text", new ParetoDesk().load(), ParetoDesk.PARSE_ERROR);
    }

    // ---- promises 2 to 10 ----

    private static void bytesOfTheInput() {
        Checks.sentence("Promise 2", "Appends 20 bytes to the input buffer:");
        // "capacity 5 " "limit 4; " ".. item weight" and so on, in rows of 20 bytes.
        String[] rows = {"capacity 5 limit 4;i", "tem weight 1 gain 2 ", "joy 3;must 0;       "};
        ParetoDesk desk = new ParetoDesk();
        Checks.sentence("Promise 2", "Returns the new length of the buffer.");
        for (int row = 0; row < rows.length; row++) {
            int[] words = new int[5];
            for (int i = 0; i < 20; i++) {
                words[i / 4] = words[i / 4] << 8 | rows[row].charAt(i);
            }
            Checks.same("append()", desk.append(words[0], words[1], words[2], words[3], words[4]), 20 * (row + 1));
        }
        Checks.same("load()", desk.load(), 1);
        Checks.sameText("the desk", Checks.state(desk), "1 5 4 0 0 1 0 0 |1 2 3 0 0 ");
    }

    private static void theParseError() {
        Checks.sentence("Promise 5", "Returns the code of the parse error of the last load();");
        String[] texts = {"capacity;", "capacity 1000", HEAD + ITEM + "must 0;must 0", HEAD + ITEM.repeat(13)};
        int[] places = {8, 9, HEAD.length() + ITEM.length() + 12, HEAD.length() + 12 * ITEM.length()};
        ParetoDesk desk = new ParetoDesk();
        for (int i = 0; i < texts.length; i++) {
            Checks.same("load()", Checks.load(desk, texts[i]), -4);
            Checks.same("errorCode() of <" + texts[i] + ">", desk.errorCode(), i + 1);
            Checks.same("errorCode() again", desk.errorCode(), i + 1);
        }
        Checks.sentence("Promise 6", "Returns the position of the parse error of the last load();");
        for (int i = texts.length - 1; i >= 0; i--) {
            Checks.same("load()", Checks.load(desk, texts[i]), -4);
            Checks.same("errorPosition() of <" + texts[i] + ">", desk.errorPosition(), places[i]);
            Checks.same("errorPosition() again", desk.errorPosition(), places[i]);
        }
    }

    private static void rowsOfTheQuestions() {
        Checks.sentence("Promise 8", "0 its weight, 1 its gain, 2 its joy, 3 the set of items with which it does not go together, 4 the set"
            + " of items that it needs Returns that number.");
        ParetoDesk desk = Checks.deskOf("capacity 99 limit 9; item weight 5 gain 6 joy 7; item weight 8 gain 9 joy 10;"
            + "item weight 11 gain 12 joy 13; bar 0 1; bar 1 2; need 1 2; need 2 0;");
        int[][] items = {{5, 6, 7, 2, 0}, {8, 9, 10, 5, 4}, {11, 12, 13, 2, 1}};
        for (int item = 0; item < 3; item++) {
            for (int what = 0; what <= 4; what++) {
                Checks.same(Desks.named("item", item, what), desk.item(item, what), items[item][what]);
            }
        }
        Checks.sentence("Promise 10", "`what`: 0 its weight, 1 its gain, 2 its joy Returns that number.");
        int[][] sums = {{0, 0, 0}, {5, 6, 7}, {8, 9, 10}, {13, 15, 17}, {11, 12, 13}, {16, 18, 20}, {19, 21, 23}, {24, 27, 30}};
        for (int set = 0; set < 8; set++) {
            for (int what = 0; what <= 2; what++) {
                Checks.same(Desks.named("sum", set, what), desk.sum(set, what), sums[set][what]);
            }
        }
    }

    // ---- promises 12 to 33 ----

    private static void rowsOfTheFrontier() {
        Checks.sentence("Promise 13", "`what`: 0 its gain; 1 its joy; 2 its choice;");
        ParetoDesk desk = Desks.eight();
        int[][] points = {{0, 12}, {2, 11}, {4, 10}, {5, 8}, {6, 7}, {7, 5}, {8, 4}, {9, 0}};
        for (int point = 0; point < points.length; point++) {
            Checks.same(Desks.named("point", point, 0), desk.point(point, 0), points[point][0]);
            Checks.same(Desks.named("point", point, 1), desk.point(point, 1), points[point][1]);
            Checks.same(Desks.named("point", point, 2), desk.point(point, 2), 1 << point);
        }
        Checks.sentence("Promise 13", "5 whether it is supported, 6 whether it is a vertex (1 or 0 each) Returns that number.");
        int[] supported = {1, 1, 1, 0, 1, 0, 1, 1};
        int[] vertices = {1, 0, 1, 0, 0, 0, 1, 1};
        for (int point = 0; point < points.length; point++) {
            Checks.same(Desks.named("point", point, 5), desk.point(point, 5), supported[point]);
            Checks.same(Desks.named("point", point, 6), desk.point(point, 6), vertices[point]);
        }
        Checks.sentence("Promise 23", "Returns its point.");
        int[] points23 = {0, 2, 6, 7};
        for (int index = 0; index < points23.length; index++) {
            Checks.same(Desks.named("vertex", index), desk.vertex(index), points23[index]);
        }
        Checks.sentence("Promise 25", "`what`: 0 the point of its first vertex, 1 that of its second one, 2 how many points lie between"
            + " them, 3 how many of these are supported, 4 the greatest one of all gains of points between them (NONE without such"
            + " points) Returns that number.");
        int[][] boxes = {{0, 2, 1, 1, 2}, {2, 6, 3, 1, 7}, {6, 7, 0, 0, -1}};
        for (int box = 0; box < boxes.length; box++) {
            for (int what = 0; what <= 4; what++) {
                Checks.same(Desks.named("box", box, what), desk.box(box, what), boxes[box][what]);
            }
        }
    }

    private static void pairsBelowThePoints() {
        Checks.sentence("Promise 29", "Returns the area of all pairs of numbers of at least 0 that are at most those of some point:");
        // Of the squares with sides of 1, those count the greatest corner of which is at most some point.
        Checks.same("a staircase of two", Desks.ofPairs(1, 3, 2, 1).area(), 4);
        for (ParetoDesk desk : new ParetoDesk[] {Desks.eight(), Desks.line(), Desks.none(), new ParetoDesk(),
                Desks.ofPairs(0, 9, 1, 6, 2, 4, 5, 3, 6, 0), Desks.ofPairs(7, 0), Desks.ofPairs(0, 7)}) {
            int squares = 0;
            for (int gain = 1; gain <= 64; gain++) {
                squares += Math.max(0, desk.joyFor(gain));
            }
            Checks.same("area()", desk.area(), squares);
        }
    }

    // ---- promises 45 to 53 ----

    private static void additions() {
        for (String name : new String[] {"weight", "gain", "joy"}) {
            Checks.sentence("Promise 45", "`" + name + "`: 0 to 99");
        }
        for (int value = 0; value <= 99; value++) {
            ParetoDesk desk = new ParetoDesk();
            desk.addItem(value, 99 - value, (value + 50) % 100);
            Checks.sameText("an item of " + value, Checks.state(desk),
                "1 20 12 0 0 0 0 0 |" + value + " " + (99 - value) + " " + (value + 50) % 100 + " 0 0 ");
        }
        Checks.sentence("Promise 45", "Returns its number.");
        ParetoDesk desk = Checks.deskOf(HEAD + ITEM + ITEM);
        Checks.same("addItem() behind two", desk.addItem(7, 8, 9), 2);
        Checks.same("its weight", desk.item(2, 0), 7);
        Checks.same("addItem() behind three", desk.addItem(6, 5, 4), 3);
        Checks.same("its joy", desk.item(3, 2), 4);
    }

    private static void previousOnes() {
        Checks.sentence("Promise 47", "`what`: 0 its weight, 1 its gain, 2 its joy");
        Checks.sentence("Promise 47", "`value`: 0 to 99, which it becomes Returns the previous one.");
        int[] before = {1, 2, 3};
        for (int what = 0; what <= 2; what++) {
            ParetoDesk desk = Checks.deskOf(HEAD + ITEM + ITEM);
            for (int value = 0; value <= 99; value++) {
                int previous = value == 0 ? before[what] : value - 1;
                Checks.same(Desks.named("setItem", 1, what, value), desk.setItem(1, what, value), previous);
                Checks.same(Desks.named("item", 1, what), desk.item(1, what), value);
            }
            for (int other = 0; other <= 2; other++) {
                Checks.same(Desks.named("item", 0, other), desk.item(0, other), before[other]);
                Checks.same(Desks.named("item", 1, other), desk.item(1, other), other == what ? 99 : before[other]);
            }
        }
    }

    private static void fromNowOn() {
        for (int promise = 50; promise <= 53; promise++) {
            Checks.sentence("Promise " + promise, "`on`: whether it is so from now on");
        }
        Checks.sentence("Promise 50", "Says whether two items do not go together.");
        ParetoDesk desk = Checks.deskOf(HEAD + ITEM.repeat(3));
        desk.bar(2, 0, true);
        Checks.same("refusal() of barred ones", desk.refusal(5), 3);
        desk.setCapacity(8);
        Checks.same("refusal() of them behind another call", desk.refusal(5), 3);
        desk.bar(2, 0, false);
        Checks.same("refusal() of free ones", desk.refusal(5), 0);
        Checks.sentence("Promise 51", "Says whether an item needs another one.");
        desk.need(2, 0, true);
        Checks.same("refusal() without what it needs", desk.refusal(4), 4);
        Checks.same("refusal() of what is needed", desk.refusal(1), 0);
        desk.need(2, 0, false);
        Checks.same("refusal() of one without needs", desk.refusal(4), 0);
        Checks.sentence("Promise 52", "Says whether each choice must have an item.");
        desk.must(1, true);
        Checks.same("refusal() without a must", desk.refusal(5), 5);
        Checks.same("refusal() with a must", desk.refusal(2), 0);
        desk.must(1, false);
        Checks.same("refusal() behind a must", desk.refusal(5), 0);
        Checks.sentence("Promise 53", "Says whether no choice may have an item.");
        desk.never(1, true);
        Checks.same("refusal() with a never", desk.refusal(2), 6);
        Checks.same("refusal() without a never", desk.refusal(5), 0);
        desk.never(1, false);
        Checks.same("refusal() behind a never", desk.refusal(2), 0);
    }

    // ---- promises 54 to 65 ----

    private static void choiceAtHand() {
        Checks.sentence("Promise 54", "A set becomes the choice at hand.");
        ParetoDesk desk = Checks.deskOf("capacity 9 limit 2; item weight 1 gain 1 joy 9; item weight 2 gain 5 joy 5;"
            + "item weight 4 gain 9 joy 1;");
        desk.choose(5);
        Checks.same("behind choose(5)", desk.property(7), 5);
        Checks.sentence("Promise 58", "Takes an item out of the choice at hand.");
        Checks.same("leave(0)", desk.leave(0), 4);
        Checks.same("behind leave(0)", desk.property(7), 4);
        Checks.sentence("Promise 57", "Puts an item to the choice at hand.");
        Checks.same("take(1)", desk.take(1), 6);
        Checks.same("behind take(1)", desk.property(7), 6);
        Checks.sentence("Promise 55", "Returns the choice.");
        Checks.same("chooseBest(0, 1)", desk.chooseBest(0, 1), 3);
        Checks.same("behind chooseBest(0, 1)", desk.property(7), 3);
        Checks.same("chooseBest(1, 0)", desk.chooseBest(1, 0), 6);
        Checks.sentence("Promise 56", "The choice with which climbing ends becomes the choice at hand.");
        Checks.same("climb(0, 1)", desk.climb(0, 1), 3);
        Checks.same("the choice at hand behind climb()", desk.property(7), 6);
        Checks.same("improve(0, 1)", desk.improve(0, 1), 1);
        Checks.same("behind improve(0, 1)", desk.property(7), 3);
    }

    private static void slots() {
        Checks.sentence("Promise 59", "`slot`: 0 or 1");
        Checks.sentence("Promise 60", "`slot`: 0 or 1 Returns the number of items.");
        ParetoDesk desk = Checks.deskOf(HEAD + ITEM.repeat(3));
        Checks.same("keep(0)", desk.keep(0), 3);
        desk.dropItem(2);
        Checks.same("keep(1)", desk.keep(1), 2);
        desk.dropItem(1);
        Checks.same("restore(0)", desk.restore(0), 3);
        Checks.same("items then", desk.property(0), 3);
        Checks.same("restore(1)", desk.restore(1), 2);
        Checks.same("items then", desk.property(0), 2);
    }

    private static void outputBytes() {
        Checks.sentence("Promise 65", "`index`: index into the output buffer Returns the byte at that index.");
        ParetoDesk desk = Desks.ofPairs(0, 12, 30, 4);
        String due = "0,12! 30,4!";
        Checks.same("writeFrontier()", desk.writeFrontier(), due.length());
        for (int i = 0; i < due.length(); i++) {
            Checks.same(Desks.named("outputByte", i), desk.outputByte(i), due.charAt(i));
        }
    }

    // ---- what the calls take ----

    private static void numbersOfItems() {
        for (int promise : new int[] {8, 34, 35, 46, 47, 50, 51, 52, 53, 57, 58}) {
            Checks.sentence("Promise " + promise, "`item`: number of an item");
        }
        for (int items = 1; items <= 12; items++) {
            numbersOfItems(items);
        }
        for (int promise : new int[] {50, 51}) {
            Checks.sentence("Promise " + promise, "`other`: number of another item");
        }
        ParetoDesk twelve = Desks.twelve(1, 1);
        takesEach("bar() with others", 12, n -> twelve.bar(n == 0 ? 11 : 0, n, false) ? 1 : 0);
        takesEach("need() with others", 12, n -> twelve.need(n == 0 ? 11 : 0, n, false) ? 1 : 0);
    }

    private static void numbersOfItems(int items) {
        ParetoDesk desk = new ParetoDesk();
        for (int i = 0; i < items; i++) {
            desk.addItem(1, 1, 1);
        }
        takesEach("item()", items, n -> desk.item(n, 0));
        takesEach("lostWithout()", items, n -> desk.lostWithout(n));
        takesEach("worth()", items, n -> desk.worth(n));
        takesEach("setItem()", items, n -> desk.setItem(n, 0, 1));
        takesEach("must()", items, n -> desk.must(n, false) ? 1 : 0);
        takesEach("never()", items, n -> desk.never(n, false) ? 1 : 0);
        takesEach("take()", items, n -> desk.take(n));
        takesEach("leave()", items, n -> desk.leave(n));
        takesEach("dropItem()", items, n -> desk.dropItem(n) + desk.addItem(1, 1, 1));
        if (items > 1) {
            takesEach("bar()", items, n -> desk.bar(n, n == 0 ? 1 : 0, false) ? 1 : 0);
            takesEach("need()", items, n -> desk.need(n, n == 0 ? 1 : 0, false) ? 1 : 0);
        }
    }

    /** Each number from 0 on is taken, the one behind the last is not. */
    private static void takesEach(String name, int count, Numbers call) {
        for (int number = 0; number < count; number++) {
            Checks.same(name + " of number " + number, call.of(number) >= ParetoDesk.NONE, true);
        }
        Checks.outOfBounds(name + " of number " + count, () -> call.of(count));
    }

    private static void numbersOfPoints() {
        for (int promise : new int[] {13, 14, 39}) {
            Checks.sentence("Promise " + promise, "`point`: number of a point");
        }
        Checks.sentence("Promise 39", "`other`: number of a point");
        ParetoDesk desk = Desks.line();
        takesEach("point()", 64, n -> desk.point(n, 6));
        takesEach("lightest()", 64, n -> desk.lightest(n));
        takesEach("apart() of a point", 64, n -> desk.apart(n, 0));
        takesEach("apart() of another point", 64, n -> desk.apart(0, n));
        Checks.sentence("Promise 23", "`index`: index of a vertex, from 0 by ascending points");
        ParetoDesk eight = Desks.eight();
        takesEach("vertex()", 4, n -> eight.vertex(n));
        Checks.sentence("Promise 25", "`box`: index of a box, that of vertex 0 and vertex 1 is 0");
        takesEach("box()", 3, n -> eight.box(n, 0));
        Checks.sentence("Promise 27", "`step`: index of a step of the search, from 0");
        for (int step = 0; step < 5; step++) {
            Checks.same(Desks.named("step", step, 0), eight.step(step, 0) >= 0, true);
        }
        Checks.throwing("step(5, 0)", NoSuchElementException.class, () -> eight.step(5, 0));
        Checks.sentence("Promise 41", "`layer`: number of a layer");
        takesEach("layerSize()", 13, n -> Desks.twelve(1, 1).layerSize(n));
    }

    private static void setsOfItems() {
        for (int promise : new int[] {9, 10, 15, 16, 38, 42, 54}) {
            Checks.sentence("Promise " + promise, "`set`: a set of items");
        }
        for (int items = 0; items <= 5; items++) {
            ParetoDesk desk = new ParetoDesk();
            for (int i = 0; i < items; i++) {
                desk.addItem(1, 1, 1);
            }
            int sets = 1 << items;
            takesEachSet("refusal()", sets, n -> desk.refusal(n));
            takesEachSet("sum()", sets, n -> desk.sum(n, 0));
            takesEachSet("pointOf()", sets, n -> desk.pointOf(n));
            takesEachSet("beatenBy()", sets, n -> desk.beatenBy(n));
            takesEachSet("nearTo()", sets, n -> desk.nearTo(n));
            takesEachSet("layerOf()", sets, n -> desk.layerOf(n));
            takesEachSet("choose()", sets, n -> desk.choose(n));
        }
    }

    private static void takesEachSet(String name, int sets, Numbers call) {
        for (int set = 0; set < sets; set++) {
            Checks.same(name + " of set " + set, call.of(set) >= ParetoDesk.NONE, true);
        }
        Checks.badArgument(name + " of set " + sets, () -> call.of(sets));
        Checks.badArgument(name + " of set -1", () -> call.of(-1));
    }

    private static void weights() {
        for (int promise : new int[] {20, 21, 43, 55, 56}) {
            Checks.sentence("Promise " + promise, "`p`: 0 to 99");
            Checks.sentence("Promise " + promise, "`q`: 0 to 99, not both of them 0");
        }
        ParetoDesk desk = Desks.ofPairs(0, 1, 1, 0);
        for (int weight = 0; weight <= 99; weight++) {
            Checks.same(Desks.named("best", weight, 99 - weight), desk.best(weight, 99 - weight), weight > 49 ? 1 : 0);
            Checks.same(Desks.named("nearest", weight, 99 - weight), desk.nearest(weight, 99 - weight), weight > 49 ? 1 : 0);
            Checks.same(Desks.named("climb", weight, 99 - weight), desk.climb(weight, 99 - weight), weight > 49 ? 2 : 1);
        }
        ParetoDesk hand = Desks.ofPairs(0, 1, 1, 0);
        for (int weight = 0; weight <= 99; weight++) {
            Checks.same(Desks.named("chooseBest", weight, 99 - weight), hand.chooseBest(weight, 99 - weight), weight > 49 ? 2 : 1);
            Checks.same(Desks.named("improve", 99 - weight, weight), hand.improve(99 - weight, weight), 1);
        }
        for (int[] w : new int[][] {{0, 0}, {-1, 5}, {5, -1}, {100, 5}, {5, 100}}) {
            Checks.badArgument(Desks.named("best", w), () -> desk.best(w[0], w[1]));
            Checks.badArgument(Desks.named("nearest", w), () -> desk.nearest(w[0], w[1]));
            Checks.badArgument(Desks.named("climb", w), () -> desk.climb(w[0], w[1]));
            Checks.badArgument(Desks.named("chooseBest", w), () -> hand.chooseBest(w[0], w[1]));
            Checks.badArgument(Desks.named("improve", w), () -> hand.improve(w[0], w[1]));
        }
    }

    private static void capacitiesAndLimits() {
        Checks.sentence("Promise 48", "`capacity`: 0 to 999");
        Checks.sentence("Promise 36", "`capacity`: 0 to 999");
        for (int start = 0; start < 1000; start += 200) {
            ParetoDesk desk = Desks.ofPairs(0, 1, 1, 0);
            desk.setItem(1, 0, 50);
            for (int capacity = start; capacity < start + 200; capacity++) {
                Checks.same(Desks.named("setCapacity", capacity), desk.setCapacity(capacity), capacity == start ? 20 : capacity - 1);
                int points = capacity < 50 ? 1 : 2;
                Checks.same(Desks.named("pointsWith", capacity), desk.pointsWith(capacity), points);
            }
            Checks.badArgument("setCapacity(1000)", () -> desk.setCapacity(1000));
            Checks.badArgument("pointsWith(1000)", () -> desk.pointsWith(1000));
            Checks.badArgument("setCapacity(-1)", () -> desk.setCapacity(-1));
            Checks.badArgument("pointsWith(-1)", () -> desk.pointsWith(-1));
        }
        Checks.sentence("Promise 49", "`limit`: 0 to 12");
        ParetoDesk desk = Desks.twelve(1, 1);
        for (int limit = 0; limit <= 12; limit++) {
            Checks.same(Desks.named("setLimit", limit), desk.setLimit(limit), limit == 0 ? 12 : limit - 1);
            Checks.same("the gain of that many items", desk.point(0, 0), limit);
        }
        Checks.badArgument("setLimit(13)", () -> desk.setLimit(13));
        Checks.badArgument("setLimit(-1)", () -> desk.setLimit(-1));
    }

    private static void anyNumbers() {
        for (int promise : new int[] {17, 37}) {
            Checks.sentence("Promise " + promise, "`gain`: any number");
            Checks.sentence("Promise " + promise, "`joy`: any number");
        }
        Checks.sentence("Promise 18", "`gain`: any number");
        Checks.sentence("Promise 19", "`joy`: any number");
        ParetoDesk desk = Desks.ofPairs(2, 5, 4, 3);
        for (int low : new int[] {Integer.MIN_VALUE, -1189, -1, 0, 1}) {
            Checks.same(Desks.named("beating", low, low), desk.beating(low, low), 2);
            Checks.same(Desks.named("joyFor", low), desk.joyFor(low), 5);
            Checks.same(Desks.named("gainFor", low), desk.gainFor(low), 4);
            Checks.same(Desks.named("capacityFor", low, low), desk.capacityFor(low, low), low > 0 ? 1 : 0);
        }
        for (int high : new int[] {Integer.MAX_VALUE, 4096, 1189, 6}) {
            Checks.same(Desks.named("beating", high, high), desk.beating(high, high), 0);
            Checks.same(Desks.named("joyFor", high), desk.joyFor(high), -1);
            Checks.same(Desks.named("gainFor", high), desk.gainFor(high), -1);
            Checks.same(Desks.named("capacityFor", high, 0), desk.capacityFor(high, 0), -1);
            Checks.same(Desks.named("capacityFor", 0, high), desk.capacityFor(0, high), -1);
        }
    }
}
