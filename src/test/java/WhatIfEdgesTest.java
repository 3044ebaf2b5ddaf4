/** The boundary cases of section 4 and of promises 34 to 44: one method for each sentence of the document. */
public final class WhatIfEdgesTest {
    private static final int MOST = Integer.MAX_VALUE;
    private static final int LEAST = Integer.MIN_VALUE;

    public static void main(String[] args) {
        pointsLost();
        areaLost();
        itemsThatAreGone();
        itemThatDoesNotExist();
        pointsOfACapacity();
        capacityOutOfRange();
        leastCapacity();
        capacityForAnyNumbers();
        nearestChoice();
        nearToOutOfRange();
        itemsApart();
        pointsThatDoNotExist();
        askingChangesNothing();
        layerZero();
        furtherLayers();
        untilEachPairIsInOne();
        layerThatDoesNotExist();
        layerOfRefused();
        layerOfOutOfRange();
        climbingBegins();
        climbingLooks();
        leastMaskOfSeveral();
        otherwiseClimbingEnds();
        climbOutOfRange();
        shareOfPoints();
        refusedOnesDoNotCount();
        Checks.end("WhatIfEdgesTest");
    }

    /** An item that each choice must have, of a weight of 21 where the capacity is 20. */
    private static ParetoDesk tooHeavy() {
        ParetoDesk desk = new ParetoDesk();
        desk.addItem(21, 3, 4);
        desk.must(0, true);
        return desk;
    }

    private static void pointsLost() {
        Checks.sentence("Promise 34", "Returns how many points are not the pair of any choice that is allowed now and does not have this"
            + " item.");
        Checks.same("of one item", Desks.ofPairs(5, 5).lostWithout(0), 1);
        ParetoDesk two = Desks.ofPairs(5, 5, 5, 5);
        Checks.same("of two like items", two.lostWithout(0) + two.lostWithout(1), 0);
        two.never(1, true);
        Checks.same("of two like items, one refused", two.lostWithout(0), 1);
        Checks.same("of four like items", Desks.ofPairs(5, 5, 5, 5, 5, 5, 5, 5).lostWithout(0), 0);
        Checks.same("of an item that no choice has", two.lostWithout(1), 0);
        Checks.same("of an item that is nothing", Desks.ofPairs(0, 0).lostWithout(0), 0);
        Checks.same("where none is allowed", Desks.none().lostWithout(1), 0);
        ParetoDesk line = Desks.line();
        for (int item = 0; item < 12; item++) {
            Checks.same("half of a line, item " + item, line.lostWithout(item), 32);
        }
        ParetoDesk must = Desks.line();
        must.must(11, true);
        Checks.same("all points", must.points(), 32);
        Checks.same("all points lost", must.lostWithout(11), 32);
        Checks.same("no points lost", must.lostWithout(5), 0);
    }

    private static void areaLost() {
        Checks.sentence("Promise 35", "Returns by how much the area would be less if no choice might have this item; NONE if then no"
            + " choice was allowed, though now one is; 0 if none is allowed now.");
        Checks.same("of one item", Desks.ofPairs(5, 5).worth(0), 25);
        Checks.same("of a gain alone", Desks.ofPairs(5, 0).worth(0), 0);
        Checks.same("of one of two like items", Desks.ofPairs(5, 5, 5, 5).worth(1), 0);
        Checks.same("of one of two items", Desks.ofPairs(5, 5, 3, 6).worth(1), 3);
        Checks.same("of the other one", Desks.ofPairs(5, 5, 3, 6).worth(0), 10);
        ParetoDesk must = Desks.ofPairs(5, 5);
        must.must(0, true);
        Checks.same("of an item that each choice must have", must.worth(0), -1);
        ParetoDesk needed = Checks.deskOf("capacity 9 limit 9; item weight 1 gain 5 joy 5; item weight 1 gain 1 joy 1; must 0; need 0 1;");
        Checks.same("of an item that a must needs", needed.worth(1), -1);
        Checks.same("where none is allowed", Desks.none().worth(0) + Desks.none().worth(1), 0);
        Checks.same("where one is allowed no more", tooHeavy().worth(0), 0);
        ParetoDesk line = Desks.line();
        Checks.same("of the least gain of a line", line.worth(0), 31);
        Checks.same("of the least joy of a line", line.worth(6), 31);
        Checks.same("of the greatest sums", Desks.twelve(99, 99).worth(11), 1188 * 1188 - 1089 * 1089);
        ParetoDesk never = Desks.ofPairs(5, 5);
        never.never(0, true);
        Checks.same("of an item that no choice may have now", never.worth(0), 0);
    }

    private static void itemsThatAreGone() {
        Checks.sentence("Promise 46", "Removes an item, with its rules, also from the choice at hand;");
        ParetoDesk desk = Checks.deskOf("capacity 9 limit 9; item weight 5 gain 5 joy 5; item weight 1 gain 5 joy 5; bar 0 1;");
        Checks.same("capacityFor() of the light one", desk.capacityFor(5, 5), 1);
        Checks.same("lostWithout() beside another one", desk.lostWithout(0), 0);
        Checks.same("layers() of both", desk.layers(), 2);
        desk.dropItem(1);
        Checks.same("capacityFor() without it", desk.capacityFor(5, 5), 5);
        Checks.same("lostWithout() of the only one", desk.lostWithout(0), 1);
        Checks.same("worth() of the only one", desk.worth(0), 25);
        Checks.same("allowed() of the only one", desk.allowed(), 2);
        Checks.same("how many have its pair", desk.point(0, 3), 1);
        Checks.same("the lightest one", desk.lightest(0), 1);
        Checks.same("pointsWith() too little for it", desk.pointsWith(4), 1);
        desk.dropItem(0);
        Checks.same("capacityFor() of no items", desk.capacityFor(5, 5), -1);
        Checks.same("layers() of no items", desk.layers(), 1);
    }

    private static void itemThatDoesNotExist() {
        ParetoDesk[] desks = {new ParetoDesk(), Desks.none(), Desks.line()};
        int[] items = {0, 2, 12};
        for (int i = 0; i < items.length; i++) {
            ParetoDesk desk = desks[i];
            int count = items[i];
            Checks.sentence("Promise 34", "Throws `IndexOutOfBoundsException` if there is no such item");
            Checks.outOfBounds(Desks.named("lostWithout", count), () -> desk.lostWithout(count));
            Checks.sentence("Promise 35", "Throws `IndexOutOfBoundsException` if there is no such item");
            Checks.outOfBounds(Desks.named("worth", count), () -> desk.worth(count));
            for (int far : Desks.FAR) {
                Checks.outOfBounds(Desks.named("lostWithout", far), () -> desk.lostWithout(far));
                Checks.outOfBounds(Desks.named("worth", far), () -> desk.worth(far));
            }
        }
        Checks.same("lostWithout() of the last item", Desks.none().lostWithout(1), 0);
        Checks.same("worth() of the last item", Desks.none().worth(1), 0);
    }

    private static void pointsOfACapacity() {
        Checks.sentence("Promise 36", "Returns how many points there would be with this capacity.");
        ParetoDesk desk = Checks.deskOf("capacity 0 limit 1; item weight 1 gain 1 joy 5; item weight 2 gain 3 joy 3;"
            + "item weight 3 gain 5 joy 1; item weight 99 gain 9 joy 9;");
        int[] due = {1, 1, 2, 3, 3};
        for (int capacity = 0; capacity < due.length; capacity++) {
            Checks.same(Desks.named("pointsWith", capacity), desk.pointsWith(capacity), due[capacity]);
        }
        Checks.same("pointsWith(98)", desk.pointsWith(98), 3);
        Checks.same("pointsWith(99)", desk.pointsWith(99), 1);
        Checks.same("points() behind it", desk.points(), 1);
        Checks.same("none with less than a must weighs", tooHeavy().pointsWith(20), 0);
        Checks.same("one with what a must weighs", tooHeavy().pointsWith(21), 1);
        Checks.same("where none is allowed", Desks.none().pointsWith(999), 0);
        Checks.same("of no items", new ParetoDesk().pointsWith(0), 1);
    }

    private static void capacityOutOfRange() {
        Checks.sentence("Promise 36", "Throws `IllegalArgumentException` if capacity is out of range");
        for (ParetoDesk desk : new ParetoDesk[] {new ParetoDesk(), Desks.none(), Desks.line()}) {
            Checks.badArgument("pointsWith(1000)", () -> desk.pointsWith(1000));
            for (int far : Desks.FAR) {
                Checks.badArgument(Desks.named("pointsWith", far), () -> desk.pointsWith(far));
            }
        }
        Checks.sentence("Promise 36", "`capacity`: 0 to 999");
        Checks.same("pointsWith(0)", Desks.line().pointsWith(0), 64);
        Checks.same("pointsWith(999)", Desks.line().pointsWith(999), 64);
    }

    private static void leastCapacity() {
        Checks.sentence("Promise 37", "Returns the least capacity, 0 to 999, with which some allowed choice has at least this gain and"
            + " this joy; NONE if there is none.");
        ParetoDesk heavy = new ParetoDesk();
        for (int i = 0; i < 12; i++) {
            heavy.addItem(i == 10 ? 9 : i == 11 ? 0 : 99, 1, 1);
        }
        Checks.same("all, of a weight of 999", heavy.capacityFor(12, 12), 999);
        heavy.setItem(11, 0, 1);
        Checks.same("all, of a weight of 1000", heavy.capacityFor(12, 12), -1);
        Checks.same("all but one", heavy.capacityFor(11, 11), 901);
        Checks.same("one more than all", heavy.capacityFor(13, 0), -1);
        Checks.same("one joy more than all", heavy.capacityFor(0, 13), -1);
        Checks.same("nothing", heavy.capacityFor(0, 0), 0);
        Checks.same("one", heavy.capacityFor(1, 0), 1);
        Checks.same("a must above the capacity", tooHeavy().capacityFor(3, 4), 21);
        Checks.same("nothing, with a must", tooHeavy().capacityFor(0, 0), 21);
        Checks.same("where none is allowed", Desks.none().capacityFor(0, 0), -1);
        ParetoDesk limited = Desks.ofPairs(5, 5, 5, 5);
        Checks.same("more than the limit lets", limited.capacityFor(6, 0), -1);
        limited.setLimit(2);
        Checks.same("what the limit lets", limited.capacityFor(6, 0), 2);
        limited.never(0, true);
        Checks.same("with an item that no choice may have", limited.capacityFor(6, 0), -1);
    }

    private static void capacityForAnyNumbers() {
        Checks.sentence("Promise 37", "`gain`: any number");
        ParetoDesk desk = Desks.ofPairs(3, 4, 5, 1);
        Checks.same("a pair", desk.capacityFor(3, 4), 1);
        Checks.same("a gain more", desk.capacityFor(4, 4), -1);
        Checks.same("a joy more", desk.capacityFor(3, 5), -1);
        Checks.same("the least numbers", desk.capacityFor(LEAST, LEAST), 0);
        Checks.same("the greatest numbers", desk.capacityFor(MOST, MOST), -1);
        Checks.same("the greatest gain", desk.capacityFor(MOST, LEAST), -1);
        Checks.same("the greatest joy", desk.capacityFor(LEAST, MOST), -1);
        Checks.same("the least gain, a joy", desk.capacityFor(LEAST, 4), 1);
        Checks.same("a gain, the least joy", desk.capacityFor(5, LEAST), 1);
        Checks.same("below 0", desk.capacityFor(-1, -1), 0);
        Checks.same("of no items", new ParetoDesk().capacityFor(0, 0), 0);
        Checks.same("more than no items", new ParetoDesk().capacityFor(1, 0), -1);
    }

    private static void nearestChoice() {
        Checks.sentence("Promise 38", "Returns the point whose choice differs in the fewest items from this one, the lowest one of several;"
            + " NONE without points.");
        ParetoDesk line = Desks.line();
        Checks.same("of 64 that differ in six", line.nearTo(0), 0);
        Checks.same("of 64 that differ in six others", line.nearTo(4095), 0);
        Checks.same("the last choice", line.nearTo(Desks.onLine(63)), 63);
        Checks.same("the choice of point 37", line.nearTo(Desks.onLine(37)), 37);
        Checks.same("one item more than two choices", line.nearTo(Desks.onLine(37) | 128), 37);
        Checks.same("one item more than two other choices", line.nearTo(Desks.onLine(36) | 1), 36);
        Checks.same("without points", Desks.none().nearTo(3), -1);
        Checks.same("of no items", new ParetoDesk().nearTo(0), 0);
        Checks.same("of one point, all items apart", Desks.twelve(1, 1).nearTo(0), 0);
        Checks.same("of the choices, not of the lightest", Desks.heavyFirst().nearTo(2), 1);
        // The choices are 1 and 6, and differ from 7 by two items and by one.
        ParetoDesk sizes = Checks.deskOf("capacity 9 limit 9; item weight 1 gain 0 joy 9; item weight 1 gain 5 joy 0;"
            + "item weight 1 gain 5 joy 0; bar 0 1; bar 0 2;");
        Checks.same("of a small choice and a great one", sizes.nearTo(7), 1);
        Checks.same("of a great choice and a small one", sizes.nearTo(0), 0);
    }

    private static void nearToOutOfRange() {
        Checks.sentence("Promise 38", "Throws `IllegalArgumentException` if set is out of range");
        for (int far : Desks.FAR) {
            Checks.badArgument(Desks.named("nearTo", far), () -> Desks.none().nearTo(far));
        }
        Checks.badArgument("nearTo(4)", () -> Desks.none().nearTo(4));
        Checks.badArgument("nearTo(1) of no items", () -> new ParetoDesk().nearTo(1));
        Checks.badArgument("nearTo(4096)", () -> Desks.line().nearTo(4096));
    }

    private static void itemsApart() {
        Checks.sentence("Promise 39", "Returns in how many items their choices differ.");
        ParetoDesk line = Desks.line();
        Checks.same("the same point", line.apart(63, 63), 0);
        Checks.same("the first and the last one", line.apart(0, 63), 12);
        Checks.same("the last and the first one", line.apart(63, 0), 12);
        Checks.same("neighbours", line.apart(0, 1), 2);
        Checks.same("one point alone", new ParetoDesk().apart(0, 0), 0);
        Checks.same("the choice of point 0, not its lightest", Desks.heavyFirst().apart(0, 0), 0);
        Checks.same("the choice of point 1, not its lightest", Desks.heavyFirst().apart(1, 1), 0);
        // The choice of point 1 is item 1, its lightest one items 2 and 3.
        ParetoDesk desk = Checks.deskOf("capacity 9 limit 2; item weight 1 gain 0 joy 3; item weight 5 gain 3 joy 0;"
            + "item weight 1 gain 1 joy 0; item weight 1 gain 2 joy 0; bar 0 1; bar 0 2; bar 0 3; bar 1 2; bar 1 3;");
        Checks.same("the lightest one of point 1", desk.lightest(1), 12);
        Checks.same("the choice of point 1 and that of point 0", desk.apart(1, 0), 2);
        Checks.same("the choice of point 0 and that of point 1", desk.apart(0, 1), 2);
    }

    private static void pointsThatDoNotExist() {
        Checks.sentence("Promise 39", "Throws `IndexOutOfBoundsException` if there is no such point");
        ParetoDesk line = Desks.line();
        Checks.outOfBounds("apart(64, 0)", () -> line.apart(64, 0));
        Checks.outOfBounds("apart(0, 64)", () -> line.apart(0, 64));
        Checks.outOfBounds("apart(0, 0) without points", () -> Desks.none().apart(0, 0));
        Checks.outOfBounds("apart(1, 0) of one point", () -> new ParetoDesk().apart(1, 0));
        Checks.outOfBounds("apart(0, 1) of one point", () -> new ParetoDesk().apart(0, 1));
        for (int far : Desks.FAR) {
            Checks.outOfBounds(Desks.named("apart", far, 0), () -> line.apart(far, 0));
            Checks.outOfBounds(Desks.named("apart", 0, far), () -> line.apart(0, far));
            Checks.outOfBounds(Desks.named("apart", far, far), () -> line.apart(far, far));
        }
    }

    private static void askingChangesNothing() {
        Checks.sentence("EXCEPTIONS", "Methods that ask what would be do not change anything.");
        ParetoDesk desk = Checks.deskOf("capacity 5 limit 2; item weight 1 gain 2 joy 9; item weight 2 gain 4 joy 4;"
            + "item weight 3 gain 9 joy 2; bar 0 2; need 1 0;");
        String before = Checks.state(desk);
        String frontier = Checks.frontier(desk);
        int area = desk.area();
        int layers = desk.layers();
        for (int item = 0; item < 3; item++) {
            desk.lostWithout(item);
            desk.worth(item);
        }
        desk.pointsWith(0);
        desk.pointsWith(999);
        desk.capacityFor(6, 6);
        desk.climb(1, 1);
        desk.best(1, 1);
        desk.refusal(7);
        Checks.sameText("the desk behind it", Checks.state(desk), before);
        Checks.same("undoCount() behind it", desk.undoCount(), 1);
        Checks.same("area() behind it", desk.area(), area);
        Checks.same("layers() behind it", desk.layers(), layers);
        Checks.same("allowed() behind it", desk.allowed(), 4);
        Checks.sameText("the output behind it", Checks.output(desk, frontier.length()), frontier);
        Checks.sameText("the frontier behind it", Checks.frontier(desk), frontier);
    }

    // ---- layers ----

    private static void layerZero() {
        Checks.sentence("4. LAYERS AND CLIMBING", "Layer 0 are the points;");
        int[] due = {1, 2, 64};
        ParetoDesk[] desks = {new ParetoDesk(), Desks.ofPairs(0, 3, 3, 0), Desks.line()};
        for (int i = 0; i < due.length; i++) {
            Checks.same("layerSize(0)", desks[i].layerSize(0), due[i]);
            for (int point = 0; point < due[i]; point++) {
                Checks.same("the layer of a point", desks[i].layerOf(desks[i].point(point, 2)), 0);
            }
        }
    }

    private static void furtherLayers() {
        Checks.sentence("4. LAYERS AND CLIMBING", "each further layer are those pairs of allowed choices that are in no earlier layer and"
            + " that no pair of an allowed choice beats but those of earlier layers.");
        ParetoDesk desk = Desks.ofPairs(3, 4, 4, 3, 3, 3, 2, 4, 3, 3, 1, 1);
        int[] due = {0, 0, 1, 1, 1, 2};
        for (int item = 0; item < 6; item++) {
            Checks.same("the layer of item " + item, desk.layerOf(1 << item), due[item]);
        }
        Checks.same("the layer of nothing", desk.layerOf(0), 3);
        int[] sizes = {2, 2, 1, 1};
        Checks.same("layers()", desk.layers(), 4);
        for (int layer = 0; layer < 4; layer++) {
            Checks.sentence("Promise 41", "Returns how many pairs it has.");
            Checks.same(Desks.named("layerSize", layer), desk.layerSize(layer), sizes[layer]);
        }
        ParetoDesk sides = Desks.ofPairs(5, 5, 5, 4, 4, 5, 5, 3, 3, 5, 4, 4);
        int[] sideLayers = {0, 1, 1, 2, 2, 2};
        for (int item = 0; item < 6; item++) {
            Checks.same("the layer of side " + item, sides.layerOf(1 << item), sideLayers[item]);
        }
        Checks.same("a layer of three", sides.layerSize(2), 3);
    }

    private static void untilEachPairIsInOne() {
        Checks.sentence("4. LAYERS AND CLIMBING", "Layers are numbered until each pair is in one.");
        Checks.sentence("Promise 40", "Returns the number of layers.");
        Checks.same("without points", Desks.none().layers(), 0);
        Checks.same("of no items", new ParetoDesk().layers(), 1);
        Checks.same("of items that are nothing", Desks.twelve(0, 0).layers(), 1);
        Checks.same("their size", Desks.twelve(0, 0).layerSize(0), 1);
        Checks.same("of twelve like items", Desks.twelve(1, 1).layers(), 13);
        // The sums are all numbers from 0 to 622, each with itself as its joy.
        ParetoDesk chain = new ParetoDesk();
        for (int i = 0; i < 12; i++) {
            chain.addItem(0, Math.min(99, 1 << i), Math.min(99, 1 << i));
        }
        Checks.same("of a long chain", chain.layers(), 623);
        Checks.same("its first layer", chain.layerOf(4095), 0);
        Checks.same("its last layer", chain.layerOf(0), 622);
        Checks.same("its last layer's size", chain.layerSize(622), 1);
        Checks.outOfBounds("behind its last layer", () -> chain.layerSize(623));
        // Between any two of 524 such pairs there is one with a gain more.
        ParetoDesk longest = new ParetoDesk();
        longest.addItem(0, 1, 0);
        for (int i = 0; i < 11; i++) {
            longest.addItem(0, Math.min(99, 1 << i), Math.min(99, 1 << i));
        }
        Checks.same("of a chain of all pairs", longest.layers(), 1048);
        Checks.same("the last layer of it", longest.layerOf(0), 1047);
        Checks.same("the last layer but one of it", longest.layerOf(1), 1046);
        Checks.same("the size of the last one", longest.layerSize(1047), 1);
        Checks.outOfBounds("behind the last one", () -> longest.layerSize(1048));
        Checks.same("of gains alone", Desks.twelve(99, 0).layers(), 13);
        Checks.same("of joys alone", Desks.twelve(0, 99).layerOf(0), 12);
    }

    private static void layerThatDoesNotExist() {
        Checks.sentence("Promise 41", "Throws `IndexOutOfBoundsException` if there is no such layer");
        int[] layers = {0, 1, 13};
        ParetoDesk[] desks = {Desks.none(), new ParetoDesk(), Desks.twelve(1, 1)};
        for (int i = 0; i < layers.length; i++) {
            ParetoDesk desk = desks[i];
            int count = layers[i];
            Checks.outOfBounds(Desks.named("layerSize", count), () -> desk.layerSize(count));
            for (int far : Desks.FAR) {
                Checks.outOfBounds(Desks.named("layerSize", far), () -> desk.layerSize(far));
            }
        }
        Checks.same("the last layer", desks[2].layerSize(12), 1);
        desks[2].setLimit(0);
        Checks.outOfBounds("a layer that is gone", () -> desks[2].layerSize(1));
    }

    private static void layerOfRefused() {
        Checks.sentence("Promise 42", "Returns the layer of its pair; NONE if the choice is refused.");
        ParetoDesk desk = Desks.ofPairs(3, 3, 1, 1, 2, 2);
        Checks.same("an allowed choice", desk.layerOf(1), 0);
        Checks.same("a refused choice with the same pair", desk.layerOf(6), -1);
        Checks.same("a refused choice that beats", desk.layerOf(7), -1);
        desk.never(0, true);
        Checks.same("a choice that is refused now", desk.layerOf(1), -1);
        Checks.same("the next one", desk.layerOf(4), 0);
        Checks.same("where none is allowed", Desks.none().layerOf(0), -1);
        Checks.same("of no items", new ParetoDesk().layerOf(0), 0);
        ParetoDesk full = Desks.twelve(1, 1);
        full.setLimit(11);
        Checks.same("all items", full.layerOf(4095), -1);
        Checks.same("all items but one", full.layerOf(4094), 0);
    }

    private static void layerOfOutOfRange() {
        Checks.sentence("Promise 42", "Throws `IllegalArgumentException` if set is out of range");
        for (int far : Desks.FAR) {
            Checks.badArgument(Desks.named("layerOf", far), () -> Desks.none().layerOf(far));
        }
        Checks.badArgument("layerOf(4)", () -> Desks.none().layerOf(4));
        Checks.badArgument("layerOf(1) of no items", () -> new ParetoDesk().layerOf(1));
        Checks.badArgument("layerOf(4096)", () -> Desks.line().layerOf(4096));
    }

    // ---- climbing ----

    private static void climbingBegins() {
        Checks.sentence("4. LAYERS AND CLIMBING", "Climbing by weights p and q begins with the choice at hand (refused or not; its value is"
            + " that of its sums).");
        ParetoDesk desk = Checks.deskOf("capacity 9 limit 1; item weight 1 gain 5 joy 5; item weight 1 gain 6 joy 4;"
            + "item weight 1 gain 5 joy 5;");
        desk.choose(1);
        desk.never(0, true);
        Checks.same("from a refused choice, of the same value", desk.climb(1, 1), 1);
        Checks.same("from a refused choice, of a greater value", desk.climb(2, 1), 2);
        Checks.same("from a refused choice, of a less value", desk.climb(1, 2), 1);
        Checks.same("where none is allowed", Desks.none().climb(1, 1), 0);
        Checks.same("of no items", new ParetoDesk().climb(1, 1), 0);
        ParetoDesk far = Checks.deskOf("capacity 9 limit 9; item weight 1 gain 5 joy 5; item weight 1 gain 6 joy 4; must 0; must 1;");
        Checks.same("two items away from each allowed choice", far.climb(1, 1), 0);
    }

    private static void climbingLooks() {
        Checks.sentence("4. LAYERS AND CLIMBING", "In each step all allowed choices are looked at that come from it by one item more, by one"
            + " item less, or by one item more and another one less.");
        Checks.same("by one item more, twelve times", Desks.twelve(1, 1).climb(1, 1), 4095);
        ParetoDesk swap = Desks.ofPairs(1, 1, 3, 2, 2, 3, 4, 4);
        swap.choose(1);
        Checks.same("by one more and another one less", swap.climb(1, 1), 8);
        // From items 0 and 1 to the better items 2 and 3 there is no way by single exchanges.
        ParetoDesk apart = Checks.deskOf("capacity 9 limit 2; item weight 1 gain 1 joy 1; item weight 1 gain 1 joy 1;"
            + "item weight 1 gain 5 joy 5; item weight 1 gain 5 joy 5; bar 0 2; bar 0 3; bar 1 2; bar 1 3; need 2 3; need 3 2;");
        apart.choose(3);
        Checks.same("two more and two less", apart.climb(1, 1), 3);
        // The refused choice at hand has too much; only one item less is allowed, and that has less value.
        ParetoDesk less = Desks.twelve(1, 1);
        less.choose(4095);
        less.setLimit(11);
        Checks.same("by one item less, of less value", less.climb(1, 1), 4095);
    }

    private static void leastMaskOfSeveral() {
        Checks.sentence("4. LAYERS AND CLIMBING", "The one of the greatest value, of several the one with the least mask, follows, if its"
            + " value is greater;");
        Checks.same("of twelve items of one value", Desks.ofPairs(1, 1, 1, 1, 1, 1, 1, 1).climb(1, 1), 1);
        // By one item more it comes to 6, by an exchange to 1, which has the same value; from there is no way on.
        ParetoDesk desk = Checks.deskOf("capacity 9 limit 9; item weight 1 gain 5 joy 0; item weight 1 gain 3 joy 0;"
            + "item weight 1 gain 2 joy 0; bar 0 2; bar 0 1;");
        desk.choose(4);
        Checks.same("an exchange with the least mask", desk.climb(1, 0), 1);
        ParetoDesk more = Checks.deskOf("capacity 9 limit 9; item weight 1 gain 2 joy 0; item weight 1 gain 3 joy 0;"
            + "item weight 1 gain 5 joy 0; bar 0 2; bar 1 2;");
        more.choose(1);
        Checks.same("one item more with the least mask", more.climb(1, 0), 3);
        ParetoDesk greatest = Desks.ofPairs(1, 1, 2, 2, 3, 3, 3, 3);
        Checks.same("the greatest one ahead of the least mask", greatest.climb(1, 1), 4);
    }

    private static void otherwiseClimbingEnds() {
        Checks.sentence("4. LAYERS AND CLIMBING", "if its value is greater; otherwise climbing ends.");
        ParetoDesk even = Desks.ofPairs(1, 1, 1, 1, 2, 0);
        even.choose(2);
        Checks.same("of the same value, with a less mask", even.climb(1, 1), 2);
        Checks.same("of the same gain", even.climb(0, 1), 2);
        Checks.same("of a greater gain", even.climb(1, 0), 4);
        Checks.sentence("Promise 43", "Returns the choice with which climbing ends.");
        ParetoDesk zero = Desks.twelve(0, 0);
        Checks.same("items that are nothing", zero.climb(99, 99), 0);
        Checks.same("items without joy", Desks.twelve(99, 0).climb(0, 99), 0);
        Checks.same("the greatest values", Desks.twelve(99, 99).climb(99, 99), 4095);
    }

    private static void climbOutOfRange() {
        Checks.sentence("Promise 43", "Throws `IllegalArgumentException` if p or q is out of range");
        int[][] wrong = {{0, 0}, {-1, 1}, {1, -1}, {100, 1}, {1, 100}, {100, 0}, {0, 100}, {LEAST, 1}, {1, MOST}};
        for (ParetoDesk desk : new ParetoDesk[] {new ParetoDesk(), Desks.none(), Desks.line()}) {
            for (int[] w : wrong) {
                Checks.badArgument(Desks.named("climb", w), () -> desk.climb(w[0], w[1]));
            }
        }
        Checks.sentence("Promise 43", "`q`: 0 to 99, not both of them 0");
        Checks.same("climb(0, 99)", Desks.ofPairs(0, 1, 1, 0).climb(0, 99), 1);
        Checks.same("climb(99, 0)", Desks.ofPairs(0, 1, 1, 0).climb(99, 0), 2);
    }

    private static void shareOfPoints() {
        Checks.sentence("Promise 44", "Returns the number of points divided by the number of allowed choices, both as doubles; 0.0 without"
            + " allowed choices.");
        Checks.sameDouble("without allowed choices", Desks.none().share(), 0.0);
        Checks.sameDouble("of no items", new ParetoDesk().share(), 1.0);
        Checks.sameDouble("of a line", Desks.line().share(), 64.0 / 729.0);
        Checks.sameDouble("of twelve items", Desks.twelve(1, 1).share(), 1.0 / 4096.0);
        Checks.sameDouble("of one of three", Desks.ofPairs(1, 1, 2, 2).share(), 1.0 / 3.0);
    }

    // ---- refused choices ----

    private static void refusedOnesDoNotCount() {
        Checks.sentence("2. CHOICES", "A choice is refused for the first of these reasons that applies; otherwise it is allowed:");
        for (int reason : new int[] {1, 4, 5, 6}) {
            for (boolean barred : new boolean[] {true, false}) {
                ParetoDesk desk = refusing(reason, barred);
                boolean must = reason == 5;
                String named = " of reason " + reason + (barred ? " and bars" : " and a limit");
                Checks.same("refusal(2)" + named, desk.refusal(2), reason);
                Checks.same("refusal(4)" + named, desk.refusal(4), reason);
                Checks.same("allowed()" + named, desk.allowed(), must ? 1 : 2);
                Checks.sameText("the frontier" + named, Checks.frontier(desk), "5,5!");
                Checks.same("point(0, 3)" + named, desk.point(0, 3), 1);
                Checks.same("area()" + named, desk.area(), 25);
                Checks.same("pointOf(2)" + named, desk.pointOf(2), 0);
                Checks.same("beatenBy(4)" + named, desk.beatenBy(4), -1);
                Checks.same("lostWithout(0)" + named, desk.lostWithout(0), 1);
                Checks.same("lostWithout(1)" + named, desk.lostWithout(1), 0);
                Checks.same("worth(0)" + named, desk.worth(0), must ? -1 : 25);
                Checks.same("worth(2)" + named, desk.worth(2), 0);
                Checks.same("pointsWith(9)" + named, desk.pointsWith(9), 1);
                Checks.same("capacityFor(6, 6)" + named, desk.capacityFor(6, 6), reason == 1 ? 99 : -1);
                Checks.same("capacityFor(5, 5)" + named, desk.capacityFor(5, 5), 1);
                Checks.same("layers()" + named, desk.layers(), must ? 1 : 2);
                Checks.same("layerOf(1)" + named, desk.layerOf(1), 0);
                Checks.same("layerOf(2)" + named, desk.layerOf(2), -1);
                Checks.same("climb(1, 1)" + named, desk.climb(1, 1), 1);
                desk.choose(1);
                Checks.same("climb(1, 1) from an allowed choice" + named, desk.climb(1, 1), 1);
                Checks.sameDouble("share()" + named, desk.share(), must ? 1.0 : 0.5);
            }
        }
    }

    /** Of items 0, 1 and 2, no two of which go together, the last two are refused though as good or better. */
    private static ParetoDesk refusing(int reason, boolean barred) {
        ParetoDesk desk = Checks.deskOf("capacity 9 limit 2; item weight 1 gain 5 joy 5; item weight 1 gain 5 joy 5;"
            + "item weight 1 gain 7 joy 7;");
        if (barred) {
            desk.bar(0, 1, true);
            desk.bar(0, 2, true);
            desk.bar(1, 2, true);
        } else {
            desk.setLimit(1);
        }
        switch (reason) {
            case 1: desk.setItem(1, 0, 99); desk.setItem(2, 0, 99); break;
            case 4: desk.need(1, 0, true); desk.need(2, 0, true); break;
            case 5: desk.must(0, true); break;
            default: desk.never(1, true); desk.never(2, true); break;
        }
        return desk;
    }
}
