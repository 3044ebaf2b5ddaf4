/** The boundary cases of promises 45 to 60 and 63 to 65: one method for each sentence of the document. */
public final class ChangeEdgesTest {
    private static final int MOST = Integer.MAX_VALUE;
    private static final int LEAST = Integer.MIN_VALUE;
    private static final String ITEM = "item weight 1 gain 1 joy 1;";

    public static void main(String[] args) {
        behindTheOthers();
        numbersOfANewItem();
        twelveItems();
        droppedFromEverywhere();
        droppedAmongTwelve();
        dropThatDoesNotExist();
        setItemGivesThePrevious();
        setItemThatDoesNotExist();
        setItemOutOfRange();
        setCapacityRange();
        setLimitRange();
        barBefore();
        needBefore();
        pairThatDoesNotExist();
        pairOfTheSame();
        mustBefore();
        neverBefore();
        singleThatDoesNotExist();
        changesLeaveTheHand();
        chooseGivesThePrevious();
        chooseOutOfRange();
        chooseRefused();
        chooseBestOfPoints();
        chooseBestWithoutPoints();
        improveSteps();
        weightsOutOfRange();
        takeAnItem();
        takeRefused();
        leaveAnItem();
        leaveRefused();
        moveThatDoesNotExist();
        keepInPlace();
        restoreKeeps();
        slotThatDoesNotExist();
        nothingKept();
        frontierBytes();
        frontierNumbers();
        choicesBytes();
        replacingItsContent();
        byteThatDoesNotExist();
        Checks.end("ChangeEdgesTest");
    }

    // ---- items ----

    private static void behindTheOthers() {
        Checks.sentence("Promise 45", "Adds an item behind the others.");
        ParetoDesk desk = new ParetoDesk();
        for (int i = 0; i < 12; i++) {
            Checks.same("addItem() number " + i, desk.addItem(i, 2 * i, 3 * i), i);
            Checks.same("items then", desk.property(0), i + 1);
            Checks.same("its weight", desk.item(i, 0), i);
            Checks.same("its gain", desk.item(i, 1), 2 * i);
            Checks.same("its joy", desk.item(i, 2), 3 * i);
        }
        // A new item has no rules, though one with the same number had some.
        ParetoDesk again = Checks.deskOf("capacity 9 limit 9;" + ITEM + ITEM + "bar 0 1; need 1 0; must 1; never 1;");
        again.dropItem(1);
        Checks.same("addItem() in its place", again.addItem(1, 1, 1), 1);
        Checks.sameText("without its rules", Checks.state(again), "2 9 9 0 0 0 0 0 |1 1 1 0 0 |1 1 1 0 0 ");
    }

    private static void numbersOfANewItem() {
        Checks.sentence("Promise 45", "Throws `IllegalArgumentException` if weight, gain or joy is out of range");
        ParetoDesk desk = new ParetoDesk();
        Checks.same("the least numbers", desk.addItem(0, 0, 0), 0);
        Checks.same("the greatest numbers", desk.addItem(99, 99, 99), 1);
        Checks.sameText("both", Checks.state(desk), "2 20 12 0 0 0 0 0 |0 0 0 0 0 |99 99 99 0 0 ");
        for (int far : new int[] {-1, 100, LEAST, MOST}) {
            Checks.badArgument(Desks.named("addItem", far, 0, 0), () -> desk.addItem(far, 0, 0));
            Checks.badArgument(Desks.named("addItem", 0, far, 0), () -> desk.addItem(0, far, 0));
            Checks.badArgument(Desks.named("addItem", 0, 0, far), () -> desk.addItem(0, 0, far));
            Checks.badArgument(Desks.named("addItem", 99, 99, far), () -> desk.addItem(99, 99, far));
        }
        Checks.same("items then", desk.property(0), 2);
    }

    private static void twelveItems() {
        Checks.sentence("Promise 45", "Throws `IllegalStateException` if there are 12 items");
        ParetoDesk desk = Desks.twelve(1, 1);
        Checks.badState("a 13th item", () -> desk.addItem(0, 0, 0));
        Checks.badArgument("a 13th item out of range", () -> desk.addItem(0, 0, 100));
        desk.dropItem(5);
        Checks.same("a 12th item behind dropItem()", desk.addItem(9, 9, 9), 11);
        Checks.badState("a 13th item again", () -> desk.addItem(0, 0, 0));
        ParetoDesk loaded = Checks.deskOf("capacity 9 limit 9;" + ITEM.repeat(12));
        Checks.badState("a 13th item behind load()", () -> loaded.addItem(0, 0, 0));
        loaded.undo();
        Checks.same("a first item behind undo()", loaded.addItem(0, 0, 0), 0);
    }

    private static void droppedFromEverywhere() {
        Checks.sentence("Promise 46", "Removes an item, with its rules, also from the choice at hand; the numbers of those behind it get"
            + " less by 1 everywhere.");
        String text = "capacity 99 limit 9; item weight 1 gain 4 joy 7; item weight 2 gain 5 joy 8; item weight 3 gain 6 joy 9;";
        String[] due = {"2 99 9 1 1 2 1 3 |2 5 8 2 2 |3 6 9 1 0 ", "2 99 9 0 1 3 0 3 |1 4 7 0 0 |3 6 9 0 1 ",
            "2 99 9 0 1 1 2 3 |1 4 7 0 2 |2 5 8 0 0 "};
        for (int item = 0; item < 3; item++) {
            ParetoDesk desk = Checks.deskOf(text);
            desk.choose(7);
            desk.bar(1, 2, true);
            desk.need(0, 1, true);
            desk.need(1, 2, true);
            desk.need(2, 0, true);
            desk.must(0, true);
            desk.must(2, true);
            desk.never(1, true);
            Checks.same(Desks.named("dropItem", item), desk.dropItem(item), 2);
            Checks.sameText("behind " + Desks.named("dropItem", item), Checks.state(desk), due[item]);
        }
        ParetoDesk one = Checks.deskOf("capacity 9 limit 9;" + ITEM + "must 0; never 0;");
        Checks.same("the only item", one.dropItem(0), 0);
        Checks.sameText("a desk without items", Checks.state(one), "0 9 9 0 0 0 0 0 ");
        Checks.same("its points", one.points(), 1);
    }

    private static void droppedAmongTwelve() {
        Checks.sentence("Promise 46", "Returns the number of items then.");
        for (int item = 0; item < 12; item++) {
            ParetoDesk desk = Desks.twelve(1, 1);
            desk.choose(4095);
            desk.bar(0, 11, true);
            desk.need(11, 0, true);
            desk.must(11, true);
            desk.never(0, true);
            Checks.same(Desks.named("dropItem", item), desk.dropItem(item), 11);
            boolean end = item == 0 || item == 11;
            Checks.same("bars then", desk.property(3), end ? 0 : 1);
            Checks.same("needs then", desk.property(4), end ? 0 : 1);
            Checks.same("must then", desk.property(5), item == 11 ? 0 : 1024);
            Checks.same("never then", desk.property(6), item == 0 ? 0 : 1);
            Checks.same("the choice at hand then", desk.property(7), 2047);
            Checks.same("the last item's bars", desk.item(10, 3), end ? 0 : 1);
            Checks.same("the first item's bars", desk.item(0, 3), end ? 0 : 1024);
            Checks.same("the last item's needs", desk.item(10, 4), end ? 0 : 1);
        }
        ParetoDesk part = Desks.twelve(1, 1);
        part.choose(2048 + 64 + 1);
        part.dropItem(7);
        Checks.same("an item that is not in the choice at hand", part.property(7), 1024 + 64 + 1);
        part.dropItem(6);
        Checks.same("one that is", part.property(7), 512 + 1);
    }

    private static void dropThatDoesNotExist() {
        Checks.sentence("Promise 46", "Throws `IndexOutOfBoundsException` if there is no such item");
        Checks.outOfBounds("dropItem(0) of no items", () -> new ParetoDesk().dropItem(0));
        Checks.outOfBounds("dropItem(2) of two", () -> Desks.none().dropItem(2));
        Checks.outOfBounds("dropItem(12) of twelve", () -> Desks.line().dropItem(12));
        for (int far : Desks.FAR) {
            Checks.outOfBounds(Desks.named("dropItem", far), () -> Desks.none().dropItem(far));
        }
        Checks.same("dropItem(1) of two", Desks.none().dropItem(1), 1);
    }

    private static void setItemGivesThePrevious() {
        Checks.sentence("Promise 47", "`value`: 0 to 99, which it becomes");
        ParetoDesk desk = Checks.deskOf("capacity 9 limit 9; item weight 1 gain 2 joy 3; item weight 4 gain 5 joy 6;");
        Checks.same("setItem(0, 0, 0)", desk.setItem(0, 0, 0), 1);
        Checks.same("setItem(0, 1, 99)", desk.setItem(0, 1, 99), 2);
        Checks.same("setItem(0, 2, 50)", desk.setItem(0, 2, 50), 3);
        Checks.same("setItem(1, 0, 99)", desk.setItem(1, 0, 99), 4);
        Checks.same("setItem(1, 1, 0)", desk.setItem(1, 1, 0), 5);
        Checks.same("setItem(1, 2, 99)", desk.setItem(1, 2, 99), 6);
        Checks.same("setItem(1, 2, 99) again", desk.setItem(1, 2, 99), 99);
        Checks.sameText("then", Checks.state(desk), "2 9 9 0 0 0 0 0 |0 99 50 0 0 |99 0 99 0 0 ");
    }

    private static void setItemThatDoesNotExist() {
        Checks.sentence("Promise 47", "Throws `IndexOutOfBoundsException` if there is no such item");
        Checks.outOfBounds("setItem(0, 0, 0) of no items", () -> new ParetoDesk().setItem(0, 0, 0));
        Checks.outOfBounds("setItem(2, 0, 0) of two", () -> Desks.none().setItem(2, 0, 0));
        Checks.outOfBounds("setItem(12, 2, 99) of twelve", () -> Desks.line().setItem(12, 2, 99));
        Checks.same("setItem(11, 2, 99) of twelve", Desks.line().setItem(11, 2, 99), 32);
        for (int far : Desks.FAR) {
            Checks.outOfBounds(Desks.named("setItem", far, 0, 0), () -> Desks.none().setItem(far, 0, 0));
            Checks.outOfBounds(Desks.named("setItem", far, far, far), () -> Desks.none().setItem(far, far, far));
        }
    }

    private static void setItemOutOfRange() {
        Checks.sentence("Promise 47", "Throws `IllegalArgumentException` if what or value is out of range");
        ParetoDesk desk = Desks.none();
        Checks.badArgument("setItem(1, 3, 0)", () -> desk.setItem(1, 3, 0));
        Checks.badArgument("setItem(1, 0, 100)", () -> desk.setItem(1, 0, 100));
        Checks.badArgument("setItem(1, 2, 100)", () -> desk.setItem(1, 2, 100));
        for (int far : Desks.FAR) {
            Checks.badArgument(Desks.named("setItem", 0, far, 0), () -> desk.setItem(0, far, 0));
            Checks.badArgument(Desks.named("setItem", 0, 1, far), () -> desk.setItem(0, 1, far));
            Checks.badArgument(Desks.named("setItem", 0, far, far), () -> desk.setItem(0, far, far));
        }
    }

    private static void setCapacityRange() {
        Checks.sentence("Promise 48", "Returns the previous capacity.");
        ParetoDesk desk = new ParetoDesk();
        Checks.same("setCapacity(999)", desk.setCapacity(999), 20);
        Checks.same("setCapacity(0)", desk.setCapacity(0), 999);
        Checks.same("setCapacity(0) again", desk.setCapacity(0), 0);
        Checks.sentence("Promise 48", "Throws `IllegalArgumentException` if capacity is out of range");
        Checks.badArgument("setCapacity(1000)", () -> desk.setCapacity(1000));
        for (int far : Desks.FAR) {
            Checks.badArgument(Desks.named("setCapacity", far), () -> desk.setCapacity(far));
        }
        Checks.same("the capacity then", desk.property(1), 0);
    }

    private static void setLimitRange() {
        Checks.sentence("Promise 49", "Returns the previous limit.");
        ParetoDesk desk = new ParetoDesk();
        Checks.same("setLimit(0)", desk.setLimit(0), 12);
        Checks.same("setLimit(12)", desk.setLimit(12), 0);
        Checks.same("setLimit(12) again", desk.setLimit(12), 12);
        Checks.sentence("Promise 49", "Throws `IllegalArgumentException` if limit is out of range");
        Checks.badArgument("setLimit(13)", () -> desk.setLimit(13));
        for (int far : Desks.FAR) {
            Checks.badArgument(Desks.named("setLimit", far), () -> desk.setLimit(far));
        }
        Checks.same("the limit then", desk.property(2), 12);
    }

    // ---- rules ----

    private static void barBefore() {
        Checks.sentence("Promise 50", "Returns true if they did not go together before.");
        ParetoDesk desk = Desks.twelve(1, 1);
        Checks.same("bar(0, 11, false) of free ones", desk.bar(0, 11, false), false);
        Checks.same("bar(0, 11, true)", desk.bar(0, 11, true), false);
        Checks.same("bar(0, 11, true) again", desk.bar(0, 11, true), true);
        Checks.same("bar(11, 0, true), in the other order", desk.bar(11, 0, true), true);
        Checks.same("item(0, 3)", desk.item(0, 3), 2048);
        Checks.same("item(11, 3)", desk.item(11, 3), 1);
        Checks.same("bar(11, 0, false)", desk.bar(11, 0, false), true);
        Checks.same("bar(0, 11, false)", desk.bar(0, 11, false), false);
        Checks.same("item(0, 3) then", desk.item(0, 3), 0);
        Checks.same("item(11, 3) then", desk.item(11, 3), 0);
        Checks.sentence("Promise 50", "Says whether two items do not go together.");
        desk.bar(11, 3, true);
        desk.bar(0, 2, true);
        desk.need(11, 5, true);
        desk.need(0, 7, true);
        desk.bar(0, 11, true);
        Checks.same("item(0, 3) beside other rules", desk.item(0, 3), 2048 + 4);
        Checks.same("item(11, 3) beside other rules", desk.item(11, 3), 8 + 1);
        desk.bar(0, 11, false);
        Checks.same("item(0, 3) of what stays", desk.item(0, 3), 4);
        Checks.same("item(11, 3) of what stays", desk.item(11, 3), 8);
        Checks.same("item(0, 4) of what stays", desk.item(0, 4), 128);
        Checks.same("item(11, 4) of what stays", desk.item(11, 4), 32);
        Checks.sentence("Promise 51", "Says whether an item needs another one.");
        desk.need(0, 3, true);
        Checks.same("item(0, 4) beside another one", desk.item(0, 4), 128 + 8);
        Checks.same("item(3, 4) of what is needed", desk.item(3, 4), 0);
        desk.need(0, 7, false);
        Checks.same("item(0, 4) then", desk.item(0, 4), 8);
        Checks.same("item(0, 3) then", desk.item(0, 3), 4);
    }

    private static void needBefore() {
        Checks.sentence("Promise 51", "Returns true if it needed it before.");
        ParetoDesk desk = Desks.twelve(1, 1);
        Checks.same("need(0, 11, false) of free ones", desk.need(0, 11, false), false);
        Checks.same("need(0, 11, true)", desk.need(0, 11, true), false);
        Checks.same("need(0, 11, true) again", desk.need(0, 11, true), true);
        Checks.same("need(11, 0, true), in the other order", desk.need(11, 0, true), false);
        Checks.same("item(0, 4)", desk.item(0, 4), 2048);
        Checks.same("item(11, 4)", desk.item(11, 4), 1);
        Checks.same("need(0, 11, false)", desk.need(0, 11, false), true);
        Checks.same("item(0, 4) then", desk.item(0, 4), 0);
        Checks.same("item(11, 4) then", desk.item(11, 4), 1);
        Checks.same("need(0, 11, false) again", desk.need(0, 11, false), false);
    }

    private static void pairThatDoesNotExist() {
        ParetoDesk[] desks = {new ParetoDesk(), Desks.none(), Desks.line()};
        int[] items = {0, 2, 12};
        for (int i = 0; i < items.length; i++) {
            ParetoDesk desk = desks[i];
            int count = items[i];
            for (int far : new int[] {count, -1, LEAST, MOST}) {
                int[][] pairs = {{far, 0}, {0, far}, {far, far}};
                for (int[] pair : pairs) {
                    Checks.sentence("Promise 50", "Throws `IndexOutOfBoundsException` if there is no such item");
                    Checks.outOfBounds(Desks.named("bar", pair), () -> desk.bar(pair[0], pair[1], true));
                    Checks.sentence("Promise 51", "Throws `IndexOutOfBoundsException` if there is no such item");
                    Checks.outOfBounds(Desks.named("need", pair), () -> desk.need(pair[0], pair[1], false));
                }
            }
        }
        Checks.same("bar(0, 1, true) of two", Desks.none().bar(0, 1, true), false);
        Checks.same("need(1, 0, true) of two", Desks.none().need(1, 0, true), false);
    }

    private static void pairOfTheSame() {
        for (boolean on : new boolean[] {true, false}) {
            Checks.sentence("Promise 50", "Throws `IllegalArgumentException` if both are the same");
            Checks.badArgument("bar(0, 0)", () -> Desks.none().bar(0, 0, on));
            Checks.badArgument("bar(11, 11)", () -> Desks.line().bar(11, 11, on));
            Checks.sentence("Promise 51", "Throws `IllegalArgumentException` if both are the same");
            Checks.badArgument("need(0, 0)", () -> Desks.none().need(0, 0, on));
            Checks.badArgument("need(11, 11)", () -> Desks.line().need(11, 11, on));
        }
    }

    private static void mustBefore() {
        Checks.sentence("Promise 52", "Returns true if it was so before.");
        ParetoDesk desk = Desks.twelve(1, 1);
        Checks.same("must(11, false) of a free one", desk.must(11, false), false);
        Checks.same("must(11, true)", desk.must(11, true), false);
        Checks.same("must(11, true) again", desk.must(11, true), true);
        Checks.same("must(0, true)", desk.must(0, true), false);
        Checks.same("property(5)", desk.property(5), 2049);
        Checks.same("must(11, false)", desk.must(11, false), true);
        Checks.same("must(11, false) again", desk.must(11, false), false);
        Checks.same("property(5) then", desk.property(5), 1);
        Checks.same("property(6) then", desk.property(6), 0);
    }

    private static void neverBefore() {
        Checks.sentence("Promise 53", "Returns true if it was so before.");
        ParetoDesk desk = Desks.twelve(1, 1);
        Checks.same("never(11, false) of a free one", desk.never(11, false), false);
        Checks.same("never(11, true)", desk.never(11, true), false);
        Checks.same("never(11, true) again", desk.never(11, true), true);
        Checks.same("never(0, true)", desk.never(0, true), false);
        Checks.same("property(6)", desk.property(6), 2049);
        Checks.same("never(11, false)", desk.never(11, false), true);
        Checks.same("never(11, false) again", desk.never(11, false), false);
        Checks.same("property(6) then", desk.property(6), 1);
        Checks.same("property(5) then", desk.property(5), 0);
    }

    private static void singleThatDoesNotExist() {
        ParetoDesk[] desks = {new ParetoDesk(), Desks.none(), Desks.line()};
        int[] items = {0, 2, 12};
        for (int i = 0; i < items.length; i++) {
            ParetoDesk desk = desks[i];
            for (int far : new int[] {items[i], -1, LEAST, MOST}) {
                Checks.sentence("Promise 52", "Throws `IndexOutOfBoundsException` if there is no such item");
                Checks.outOfBounds(Desks.named("must", far), () -> desk.must(far, true));
                Checks.outOfBounds(Desks.named("must", far), () -> desk.must(far, false));
                Checks.sentence("Promise 53", "Throws `IndexOutOfBoundsException` if there is no such item");
                Checks.outOfBounds(Desks.named("never", far), () -> desk.never(far, true));
                Checks.outOfBounds(Desks.named("never", far), () -> desk.never(far, false));
            }
        }
    }

    private static void changesLeaveTheHand() {
        Checks.sentence("EXCEPTIONS", "Changes of items and rules leave it as it is, also if it is refused then.");
        ParetoDesk desk = Checks.deskOf("capacity 9 limit 9;" + ITEM.repeat(4));
        desk.choose(3);
        desk.addItem(1, 1, 1);
        Checks.same("behind addItem()", desk.property(7), 3);
        int[] reasons = {1, 2, 3, 4, 5, 6, 1};
        for (int i = 0; i < reasons.length; i++) {
            switch (i) {
                case 0: desk.setCapacity(1); break;
                case 1: desk.setLimit(1); break;
                case 2: desk.bar(0, 1, true); break;
                case 3: desk.need(0, 3, true); break;
                case 4: desk.must(4, true); break;
                case 5: desk.never(0, true); break;
                default: desk.setItem(1, 0, 99); break;
            }
            Checks.same("behind change " + i, desk.property(7), 3);
            Checks.same("it is refused behind change " + i, desk.refusal(3), reasons[i]);
            desk.undo();
            Checks.same("allowed again", desk.refusal(3), 0);
        }
        desk.need(0, 3, true);
        desk.dropItem(2);
        Checks.same("behind dropItem() of another item", desk.property(7), 3);
        Checks.same("still refused", desk.refusal(3), 4);
    }

    // ---- the choice at hand ----

    private static void chooseGivesThePrevious() {
        Checks.sentence("Promise 54", "Returns the previous one.");
        ParetoDesk desk = Desks.twelve(1, 1);
        Checks.same("choose(4095)", desk.choose(4095), 0);
        Checks.same("choose(0)", desk.choose(0), 4095);
        Checks.same("choose(0) again", desk.choose(0), 0);
        desk.choose(2048);
        desk.never(11, true);
        Checks.same("from a refused one", desk.choose(1), 2048);
        Checks.same("of no items", new ParetoDesk().choose(0), 0);
    }

    private static void chooseOutOfRange() {
        Checks.sentence("Promise 54", "Throws `IllegalArgumentException` if set is out of range");
        for (int far : Desks.FAR) {
            Checks.badArgument(Desks.named("choose", far), () -> Desks.none().choose(far));
            Checks.badArgument(Desks.named("choose", far) + " of twelve", () -> Desks.twelve(1, 1).choose(far));
        }
        Checks.badArgument("choose(4)", () -> Desks.none().choose(4));
        Checks.badArgument("choose(1) of no items", () -> new ParetoDesk().choose(1));
        Checks.badArgument("choose(4096)", () -> Desks.twelve(1, 1).choose(4096));
    }

    private static void chooseRefused() {
        Checks.sentence("Promise 54", "Throws `IllegalStateException` if the choice is refused");
        for (int set = 0; set < 4; set++) {
            int one = set;
            Checks.badState(Desks.named("choose", set), () -> Desks.none().choose(one));
        }
        ParetoDesk desk = Desks.ofPairs(1, 1, 1, 1);
        Checks.badState("choose(3) with a limit of 1", () -> desk.choose(3));
        desk.choose(2);
        desk.setCapacity(0);
        Checks.badState("choose(2) of a choice that is at hand, and refused", () -> desk.choose(2));
        Checks.same("it stays at hand", desk.property(7), 2);
    }

    private static void chooseBestOfPoints() {
        Checks.sentence("Promise 55", "The choice of the best point by weights becomes the choice at hand.");
        ParetoDesk desk = Desks.line();
        Checks.same("chooseBest(1, 1), of 64", desk.chooseBest(1, 1), Desks.onLine(0));
        Checks.same("the choice at hand", desk.property(7), Desks.onLine(0));
        Checks.same("chooseBest(99, 0)", desk.chooseBest(99, 0), Desks.onLine(63));
        Checks.same("chooseBest(0, 99)", desk.chooseBest(0, 99), Desks.onLine(0));
        Checks.same("of no items", new ParetoDesk().chooseBest(1, 1), 0);
        Checks.same("the least mask", Desks.ofPairs(2, 2, 3, 3, 3, 3).chooseBest(1, 1), 2);
        Checks.same("the choice, not the lightest", Desks.heavyFirst().chooseBest(1, 0), 2);
    }

    private static void chooseBestWithoutPoints() {
        Checks.sentence("Promise 55", "Throws `IllegalStateException` if there are no points");
        ParetoDesk none = Desks.none();
        Checks.badState("chooseBest(1, 1)", () -> none.chooseBest(1, 1));
        Checks.badState("chooseBest(99, 99)", () -> none.chooseBest(99, 99));
        Checks.badArgument("chooseBest(0, 0) without points", () -> none.chooseBest(0, 0));
        Checks.badArgument("chooseBest(100, 1) without points", () -> none.chooseBest(100, 1));
    }

    private static void improveSteps() {
        Checks.sentence("Promise 56", "Returns the number of steps that were made (the last look, by which it ends, is none).");
        ParetoDesk desk = Desks.twelve(1, 1);
        Checks.same("twelve steps", desk.improve(1, 1), 12);
        Checks.same("the choice at hand", desk.property(7), 4095);
        Checks.same("no step", desk.improve(1, 1), 0);
        Checks.same("undoCount() of both", desk.undoCount(), 8);
        desk.undo();
        Checks.same("undone once", desk.property(7), 4095);
        desk.undo();
        Checks.same("undone twice", desk.property(7), 0);
        Checks.same("of no items", new ParetoDesk().improve(99, 99), 0);
        ParetoDesk none = Desks.none();
        Checks.same("where none is allowed", none.improve(1, 1), 0);
        Checks.same("the choice at hand there", none.property(7), 0);
        Checks.same("one step", Desks.ofPairs(1, 1, 2, 2).improve(0, 1), 1);
    }

    private static void weightsOutOfRange() {
        int[][] wrong = {{0, 0}, {-1, 1}, {1, -1}, {100, 1}, {1, 100}, {100, 0}, {0, 100}, {LEAST, 1}, {1, MOST}};
        for (ParetoDesk desk : new ParetoDesk[] {new ParetoDesk(), Desks.none(), Desks.line()}) {
            for (int[] w : wrong) {
                Checks.sentence("Promise 55", "Throws `IllegalArgumentException` if p or q is out of range");
                Checks.badArgument(Desks.named("chooseBest", w), () -> desk.chooseBest(w[0], w[1]));
                Checks.sentence("Promise 56", "Throws `IllegalArgumentException` if p or q is out of range");
                Checks.badArgument(Desks.named("improve", w), () -> desk.improve(w[0], w[1]));
            }
        }
        Checks.sentence("Promise 56", "`q`: 0 to 99, not both of them 0");
        Checks.same("improve(0, 99)", Desks.ofPairs(0, 1).improve(0, 99), 1);
        Checks.same("improve(99, 0)", Desks.ofPairs(0, 1).improve(99, 0), 0);
    }

    private static void takeAnItem() {
        Checks.sentence("Promise 57", "Returns the weight of the choice then.");
        ParetoDesk desk = new ParetoDesk();
        desk.setCapacity(999);
        for (int i = 0; i < 12; i++) {
            desk.addItem(i < 10 ? 99 : i == 10 ? 9 : 0, 1, 1);
        }
        for (int i = 0; i < 12; i++) {
            Checks.same(Desks.named("take", i), desk.take(i), i < 10 ? 99 * (i + 1) : 999);
            Checks.same("the choice at hand", desk.property(7), (2 << i) - 1);
        }
        Checks.sentence("Promise 57", "Throws `IllegalStateException` if it has it already, or it would be refused then");
        for (int i = 0; i < 12; i++) {
            int item = i;
            Checks.badState(Desks.named("take", i) + " again", () -> desk.take(item));
        }
    }

    private static void takeRefused() {
        Checks.sentence("Promise 57", "or it would be refused then");
        for (int reason = 1; reason <= 6; reason++) {
            ParetoDesk desk = Checks.deskOf("capacity 9 limit 9;" + ITEM.repeat(4));
            desk.choose(1);
            tell(desk, reason);
            Checks.badState("take(1) for reason " + reason, () -> desk.take(1));
            Checks.same("the choice at hand", desk.property(7), 1);
            desk.undo();
            Checks.same("take(1) without the reason", desk.take(1), 2);
        }
        ParetoDesk edge = Checks.deskOf("capacity 2 limit 2;" + ITEM.repeat(3));
        edge.take(2);
        Checks.same("take(0) up to the capacity and the limit", edge.take(0), 2);
        Checks.badState("take(1) above both", () -> edge.take(1));
        // What is refused now may be allowed with one item more.
        ParetoDesk must = Checks.deskOf("capacity 2 limit 2;" + ITEM.repeat(3) + "must 1;");
        Checks.badState("take(0) without a must", () -> must.take(0));
        Checks.same("take(1) of a must", must.take(1), 1);
    }

    private static void tell(ParetoDesk desk, int reason) {
        switch (reason) {
            case 1: desk.setCapacity(1); break;
            case 2: desk.setLimit(1); break;
            case 3: desk.bar(1, 0, true); break;
            case 4: desk.need(1, 3, true); break;
            case 5: desk.must(3, true); break;
            default: desk.never(1, true); break;
        }
    }

    private static void leaveAnItem() {
        Checks.sentence("Promise 58", "Returns the weight of the choice then.");
        ParetoDesk desk = Checks.deskOf("capacity 99 limit 9; item weight 1 gain 1 joy 1; item weight 20 gain 1 joy 1;"
            + "item weight 5 gain 1 joy 1;");
        desk.choose(7);
        Checks.same("leave(1)", desk.leave(1), 6);
        Checks.same("the choice at hand", desk.property(7), 5);
        Checks.same("leave(2)", desk.leave(2), 1);
        Checks.same("leave(0)", desk.leave(0), 0);
        Checks.sentence("Promise 58", "Throws `IllegalStateException` if it does not have it, or it would be refused then");
        Checks.badState("leave(0) again", () -> desk.leave(0));
        Checks.badState("leave(2) again", () -> desk.leave(2));
        Checks.same("the empty choice at hand", desk.property(7), 0);
    }

    private static void leaveRefused() {
        Checks.sentence("Promise 58", "or it would be refused then");
        for (int reason = 1; reason <= 6; reason++) {
            ParetoDesk desk = Checks.deskOf("capacity 9 limit 9;" + ITEM.repeat(4));
            desk.choose(7);
            tell(desk, reason);
            Checks.badState("leave(2) for reason " + reason, () -> desk.leave(2));
            Checks.same("the choice at hand", desk.property(7), 7);
            desk.undo();
            Checks.same("leave(2) without the reason", desk.leave(2), 2);
        }
        ParetoDesk must = Checks.deskOf("capacity 9 limit 9;" + ITEM.repeat(2) + "must 1;");
        must.choose(3);
        Checks.badState("leave(1) of a must", () -> must.leave(1));
        Checks.same("leave(0) beside a must", must.leave(0), 1);
        // A refused choice may be left for an allowed one.
        ParetoDesk never = Checks.deskOf("capacity 9 limit 9;" + ITEM.repeat(2));
        never.choose(3);
        never.never(1, true);
        Checks.badState("leave(0) to a refused choice", () -> never.leave(0));
        Checks.same("leave(1) from a refused choice", never.leave(1), 1);
    }

    private static void moveThatDoesNotExist() {
        ParetoDesk[] desks = {new ParetoDesk(), Desks.none(), Desks.twelve(1, 1)};
        int[] items = {0, 2, 12};
        desks[2].choose(4095);
        for (int i = 0; i < items.length; i++) {
            ParetoDesk desk = desks[i];
            for (int far : new int[] {items[i], 31, 32, -1, LEAST, MOST}) {
                Checks.sentence("Promise 57", "Throws `IndexOutOfBoundsException` if there is no such item");
                Checks.outOfBounds(Desks.named("take", far), () -> desk.take(far));
                Checks.sentence("Promise 58", "Throws `IndexOutOfBoundsException` if there is no such item");
                Checks.outOfBounds(Desks.named("leave", far), () -> desk.leave(far));
            }
        }
    }

    // ---- slots ----

    private static void keepInPlace() {
        Checks.sentence("Promise 59", "Keeps everything that undo() restores, but what can be undone, in a slot, in place of what was"
            + " there.");
        ParetoDesk desk = Checks.deskOf("capacity 9 limit 8;" + ITEM.repeat(2) + "bar 0 1; need 1 0; must 0; never 1;");
        desk.must(0, false);
        desk.take(0);
        String kept = Checks.state(desk);
        Checks.same("keep(0)", desk.keep(0), 2);
        Checks.same("undoCount() behind keep()", desk.undoCount(), 3);
        desk.dropItem(0);
        desk.addItem(5, 5, 5);
        desk.addItem(6, 6, 6);
        desk.setLimit(1);
        String other = Checks.state(desk);
        Checks.same("keep(1)", desk.keep(1), 3);
        Checks.same("restore(0)", desk.restore(0), 2);
        Checks.sameText("what slot 0 kept", Checks.state(desk), kept);
        Checks.same("undoCount() behind restore()", desk.undoCount(), 8);
        Checks.same("keep(1) in place of what was there", desk.keep(1), 2);
        desk.undo();
        Checks.sameText("restore() undone", Checks.state(desk), other);
        Checks.same("restore(1)", desk.restore(1), 2);
        Checks.sameText("what slot 1 keeps now", Checks.state(desk), kept);
        ParetoDesk empty = new ParetoDesk();
        Checks.same("keep(1) of no items", empty.keep(1), 0);
        Checks.same("restore(1) of no items", empty.restore(1), 0);
        Checks.same("twelve items", Desks.twelve(1, 1).keep(1), 12);
        Checks.sentence("Promise 59", "Returns the number of items.");
        Checks.same("keep(0) of two", Desks.none().keep(0), 2);
    }

    private static void restoreKeeps() {
        Checks.sentence("Promise 60", "Makes everything as it was kept in a slot, which keeps it.");
        ParetoDesk desk = Desks.none();
        desk.keep(0);
        String kept = Checks.state(desk);
        for (int round = 0; round < 3; round++) {
            desk.setItem(0, 0, 50 + round);
            desk.bar(0, 1, true);
            desk.never(0, false);
            desk.setCapacity(99);
            desk.choose(1);
            Checks.same("points() ahead", desk.points(), 1);
            Checks.same("restore(0)", desk.restore(0), 2);
            Checks.sameText("round " + round, Checks.state(desk), kept);
            Checks.same("points() then", desk.points(), 0);
            Checks.same("layers() then", desk.layers(), 0);
            Checks.same("steps() then", desk.steps(), 0);
        }
        Checks.badState("restore(1) of the other slot", () -> desk.restore(1));
        Checks.same("restore(0) of what is so already", desk.restore(0), 2);
        Checks.same("undoCount() counts it", desk.undoCount(), 8);
    }

    private static void slotThatDoesNotExist() {
        ParetoDesk desk = new ParetoDesk();
        ParetoDesk both = new ParetoDesk();
        both.keep(0);
        both.keep(1);
        for (int far : new int[] {2, -1, LEAST, MOST}) {
            Checks.sentence("Promise 59", "Throws `IndexOutOfBoundsException` if there is no such slot");
            Checks.outOfBounds(Desks.named("keep", far), () -> desk.keep(far));
            Checks.sentence("Promise 60", "Throws `IndexOutOfBoundsException` if there is no such slot");
            Checks.outOfBounds(Desks.named("restore", far), () -> desk.restore(far));
            Checks.outOfBounds(Desks.named("restore", far) + " with both kept", () -> both.restore(far));
        }
        Checks.sentence("Promise 60", "`slot`: 0 or 1");
        Checks.same("restore(0)", both.restore(0), 0);
        Checks.same("restore(1)", both.restore(1), 0);
    }

    private static void nothingKept() {
        Checks.sentence("Promise 60", "Throws `IllegalStateException` if nothing is kept there");
        ParetoDesk desk = new ParetoDesk();
        Checks.badState("restore(0) at first", () -> desk.restore(0));
        Checks.badState("restore(1) at first", () -> desk.restore(1));
        desk.keep(1);
        Checks.badState("restore(0) behind keep(1)", () -> desk.restore(0));
        Checks.same("restore(1) behind keep(1)", desk.restore(1), 0);
        Checks.same("undoCount()", desk.undoCount(), 1);
    }

    // ---- output ----

    private static void frontierBytes() {
        Checks.sentence("Promise 63", "for each point its gain, a comma, its joy, and one of the bytes ! (a vertex), + (supported, but no"
            + " vertex) and . (not supported); separated by spaces.");
        Checks.same("without points", Desks.none().writeFrontier(), 0);
        Checks.sameText("one point", Checks.frontier(new ParetoDesk()), "0,0!");
        Checks.sameText("two points", Checks.frontier(Desks.ofPairs(0, 3, 3, 0)), "0,3! 3,0!");
        Checks.sameText("all kinds", Checks.frontier(Desks.ofPairs(0, 4, 2, 2, 3, 0, 4, 0)), "0,4! 2,2+ 4,0!");
        Checks.sameText("not supported", Checks.frontier(Desks.ofPairs(0, 4, 2, 1, 4, 0)), "0,4! 2,1. 4,0!");
        StringBuilder due = new StringBuilder();
        for (int gain = 0; gain < 64; gain++) {
            due.append(gain > 0 ? " " : "").append(gain).append(',').append(63 - gain).append(gain % 63 == 0 ? '!' : '+');
        }
        Checks.sentence("Promise 63", "Returns the length of the output.");
        ParetoDesk line = Desks.line();
        int length = line.writeFrontier();
        Checks.same("the length of a line's output", length, due.length());
        // One desk is used for 512 calls at most.
        Checks.sameText("the first bytes of a line", Checks.output(line, 300), due.substring(0, 300));
        Checks.same("the last byte of a line", line.outputByte(length - 1), '!');
        Checks.outOfBounds("the byte behind it", () -> line.outputByte(length));
    }

    private static void frontierNumbers() {
        Checks.sentence("Promise 63", "its gain, a comma, its joy");
        int[] sums = {9, 10, 99, 100, 101, 999, 1000, 1001, 1010, 1100, 1188};
        for (int i = 0; i < sums.length; i++) {
            ParetoDesk desk = new ParetoDesk();
            int gain = sums[i];
            int joy = sums[sums.length - 1 - i];
            for (int item = 0; item < 12; item++) {
                desk.addItem(0, Math.min(99, gain), Math.min(99, joy));
                gain -= Math.min(99, gain);
                joy -= Math.min(99, joy);
            }
            Checks.sameText("numbers of some digits", Checks.frontier(desk), sums[i] + "," + sums[sums.length - 1 - i] + "!");
        }
    }

    private static void choicesBytes() {
        Checks.sentence("Promise 64", "for each point one byte for each item, 1 if its choice has it, otherwise 0; a newline behind each"
            + " point.");
        Checks.same("without points", Desks.none().writeChoices(), 0);
        ParetoDesk none = new ParetoDesk();
        Checks.sameText("without items", Checks.output(none, none.writeChoices()), "\n");
        ParetoDesk three = Desks.ofPairs(0, 4, 4, 0, 1, 1);
        Checks.sameText("three items", Checks.output(three, three.writeChoices()), "100\n001\n010\n");
        ParetoDesk twelve = Desks.twelve(1, 1);
        ParetoDesk heavy = Desks.heavyFirst();
        Checks.sameText("the choices, not the lightest", Checks.output(heavy, heavy.writeChoices()), "1000\n0100\n");
        Checks.sameText("twelve items", Checks.output(twelve, twelve.writeChoices()), "111111111111\n");
        twelve.never(11, true);
        twelve.never(1, true);
        Checks.sameText("ten of twelve items", Checks.output(twelve, twelve.writeChoices()), "101111111110\n");
        Checks.sentence("Promise 64", "Returns the length of the output.");
        ParetoDesk line = Desks.line();
        Checks.same("of a line", line.writeChoices(), 64 * 13);
        Checks.same("its last byte", line.outputByte(831), '\n');
        Checks.same("the byte before it", line.outputByte(830), '0');
        Checks.outOfBounds("the byte behind it", () -> line.outputByte(832));
    }

    private static void replacingItsContent() {
        Checks.sentence("Promise 63", "Writes the frontier to the output buffer, replacing its content:");
        ParetoDesk desk = Desks.line();
        desk.writeChoices();
        desk.setLimit(0);
        Checks.same("writeFrontier() behind a longer output", desk.writeFrontier(), 4);
        Checks.sameText("its bytes", Checks.output(desk, 4), "0,0!");
        Checks.outOfBounds("a byte of the longer output", () -> desk.outputByte(4));
        desk.undo();
        Checks.sameText("the output behind a change", Checks.output(desk, 4), "0,0!");
        Checks.sentence("Promise 64", "Writes the choices of all points to the output buffer, replacing its content:");
        desk.writeFrontier();
        desk.setLimit(0);
        Checks.same("writeChoices() behind a longer output", desk.writeChoices(), 13);
        Checks.sameText("its bytes", Checks.output(desk, 13), "000000000000\n");
        Checks.outOfBounds("a byte of the longer output", () -> desk.outputByte(13));
        desk.must(0, true);
        Checks.same("writeChoices() without points", desk.writeChoices(), 0);
        Checks.outOfBounds("a byte of it", () -> desk.outputByte(0));
    }

    private static void byteThatDoesNotExist() {
        Checks.sentence("Promise 65", "Throws `IndexOutOfBoundsException` if index is negative or not less than the output's length");
        ParetoDesk desk = new ParetoDesk();
        for (int far : new int[] {0, 1, -1, LEAST, MOST}) {
            Checks.outOfBounds(Desks.named("outputByte", far) + " at first", () -> desk.outputByte(far));
        }
        Checks.same("writeFrontier()", desk.writeFrontier(), 4);
        Checks.same("outputByte(0)", desk.outputByte(0), '0');
        Checks.same("outputByte(3)", desk.outputByte(3), '!');
        for (int far : new int[] {4, 5, -1, LEAST, MOST}) {
            Checks.outOfBounds(Desks.named("outputByte", far), () -> desk.outputByte(far));
        }
    }
}
