/** The boundary cases of section 2 and of promises 7 to 11: one method for each sentence of the document. */
public final class ChoiceEdgesTest {
    private static final String SIX = "capacity 5 limit 2;" + "item weight 2 gain 1 joy 6;".repeat(6)
        + "bar 0 1; need 2 3; must 4; never 0;";
    private static final int SET = 7;

    public static void main(String[] args) {
        propertiesOfAnEmptyDesk();
        propertiesOfAFullDesk();
        propertyOutOfRange();
        pairsThatNeedEachOther();
        rowsOfAnItem();
        itemThatDoesNotExist();
        itemOutOfRange();
        setsThatAreTaken();
        setsOutOfRange();
        firstReasonThatApplies();
        reasonWeight();
        reasonLimit();
        reasonBar();
        reasonNeed();
        reasonMust();
        reasonNever();
        allowedOtherwise();
        refusalOfNoItems();
        sumsOfTheItems();
        sumOutOfRange();
        numberOfAllowedChoices();
        Checks.end("ChoiceEdgesTest");
    }

    private static void propertiesOfAnEmptyDesk() {
        Checks.sentence("Promise 7", "`what`: 0 items; 1 the capacity; 2 the limit; 3 pairs that do not go together; 4 pairs of which one"
            + " needs the other; 5 the set of items that each choice must have; 6 the set of those that none may have; 7 the"
            + " choice at hand");
        ParetoDesk desk = new ParetoDesk();
        int[] due = {0, 20, 12, 0, 0, 0, 0, 0};
        for (int what = 0; what <= 7; what++) {
            Checks.same("property(" + what + ") of a new desk", desk.property(what), due[what]);
        }
    }

    private static void propertiesOfAFullDesk() {
        Checks.sentence("Promise 7", "Returns that number.");
        ParetoDesk desk = Desks.twelve(1, 1);
        desk.setCapacity(999);
        desk.choose(4095);
        for (int item = 0; item < 12; item++) {
            desk.must(item, true);
            desk.never(item, true);
            for (int other = 0; other < 12; other++) {
                if (other != item) {
                    desk.bar(item, other, true);
                    desk.need(item, other, true);
                }
            }
        }
        int[] due = {12, 999, 12, 66, 132, 4095, 4095, 4095};
        for (int what = 0; what <= 7; what++) {
            Checks.same("property(" + what + ") of a full desk", desk.property(what), due[what]);
        }
        Checks.sentence("Promise 8", "3 the set of items with which it does not go together, 4 the set of items that it needs");
        for (int item = 0; item < 12; item++) {
            Checks.same("item(" + item + ", 3) of a full desk", desk.item(item, 3), 4095 - (1 << item));
            Checks.same("item(" + item + ", 4) of a full desk", desk.item(item, 4), 4095 - (1 << item));
        }
    }

    private static void propertyOutOfRange() {
        Checks.sentence("Promise 7", "Throws `IllegalArgumentException` if what is out of range");
        for (ParetoDesk desk : new ParetoDesk[] {new ParetoDesk(), Desks.none(), Desks.twelve(1, 1)}) {
            Checks.badArgument("property(8)", () -> desk.property(8));
            for (int what : Desks.FAR) {
                Checks.badArgument("property(" + what + ")", () -> desk.property(what));
            }
        }
    }

    private static void pairsThatNeedEachOther() {
        Checks.sentence("Promise 7", "3 pairs that do not go together; 4 pairs of which one needs the other;");
        ParetoDesk desk = Checks.deskOf("capacity 9 limit 9;" + "item weight 1 gain 1 joy 1;".repeat(3));
        desk.bar(0, 1, true);
        desk.bar(1, 0, true);
        Checks.same("a pair told in both orders", desk.property(3), 1);
        desk.need(0, 1, true);
        desk.need(0, 1, true);
        Checks.same("a need told twice", desk.property(4), 1);
        desk.need(1, 0, true);
        Checks.same("two needs", desk.property(4), 2);
    }

    private static void rowsOfAnItem() {
        Checks.sentence("Promise 8", "`what`: 0 its weight, 1 its gain, 2 its joy");
        ParetoDesk desk = Checks.deskOf("capacity 9 limit 9; item weight 0 gain 99 joy 1; item weight 99 gain 0 joy 2;"
            + "item weight 3 gain 4 joy 99; bar 0 2; need 1 0;");
        int[][] due = {{0, 99, 1, 4, 0}, {99, 0, 2, 0, 1}, {3, 4, 99, 1, 0}};
        for (int item = 0; item < 3; item++) {
            for (int what = 0; what <= 4; what++) {
                Checks.same(Desks.named("item", item, what), desk.item(item, what), due[item][what]);
            }
        }
    }

    private static void itemThatDoesNotExist() {
        Checks.sentence("Promise 8", "Throws `IndexOutOfBoundsException` if there is no such item");
        ParetoDesk two = Desks.none();
        Checks.same("the last item", two.item(1, 0), 1);
        Checks.outOfBounds("item(2, 0)", () -> two.item(2, 0));
        ParetoDesk full = Desks.twelve(1, 1);
        Checks.same("the twelfth item", full.item(11, 0), 0);
        Checks.outOfBounds("item(12, 0)", () -> full.item(12, 0));
        Checks.outOfBounds("item(0, 0) of no items", () -> new ParetoDesk().item(0, 0));
        for (int item : Desks.FAR) {
            Checks.outOfBounds(Desks.named("item", item, 0), () -> full.item(item, 0));
        }
        full.dropItem(0);
        Checks.outOfBounds("item(11, 0) behind dropItem()", () -> full.item(11, 0));
    }

    private static void itemOutOfRange() {
        Checks.sentence("Promise 8", "Throws `IllegalArgumentException` if what is out of range");
        ParetoDesk desk = Desks.none();
        Checks.same("item(0, 4)", desk.item(0, 4), 0);
        Checks.badArgument("item(0, 5)", () -> desk.item(0, 5));
        for (int what : Desks.FAR) {
            Checks.badArgument(Desks.named("item", 1, what), () -> desk.item(1, what));
            Checks.outOfBounds(Desks.named("item", 2, what), () -> desk.item(2, what));
        }
    }

    private static void setsThatAreTaken() {
        Checks.sentence("EXCEPTIONS", "(a set is out of range if it is negative, or has a bit for which there is no item)");
        for (int items = 0; items <= 12; items++) {
            ParetoDesk desk = new ParetoDesk();
            for (int i = 0; i < items; i++) {
                desk.addItem(1, 1, 1);
            }
            int every = (1 << items) - 1;
            Checks.same("the sum of the greatest set of " + items, desk.sum(every, 0), items);
            Checks.same("the refusal of it", desk.refusal(every), 0);
            int bit = 1 << items;
            Checks.badArgument("sum() of a set with a bit too much", () -> desk.sum(bit, 0));
            Checks.badArgument("refusal() of a set with a bit too much", () -> desk.refusal(bit));
            Checks.badArgument("refusal() of a set with the last bit", () -> desk.refusal(1 << 30));
        }
    }

    private static void setsOutOfRange() {
        Checks.sentence("Promise 9", "Throws `IllegalArgumentException` if set is out of range");
        for (int set : Desks.FAR) {
            Checks.badArgument(Desks.named("refusal", set), () -> Desks.none().refusal(set));
            Checks.badArgument(Desks.named("refusal", set) + " of no items", () -> new ParetoDesk().refusal(set));
            Checks.badArgument(Desks.named("refusal", set) + " of twelve", () -> Desks.twelve(0, 0).refusal(set));
        }
        Checks.badArgument("refusal(4)", () -> Desks.none().refusal(4));
        Checks.badArgument("refusal(5)", () -> Desks.none().refusal(5));
    }

    /** Each reason goes, one behind the other, so that the next one shows. */
    private static void firstReasonThatApplies() {
        Checks.sentence("2. CHOICES", "A choice is refused for the first of these reasons that applies; otherwise it is allowed:");
        ParetoDesk desk = Checks.deskOf(SIX);
        Checks.same("all six reasons", desk.refusal(SET), 1);
        desk.setCapacity(6);
        Checks.same("five reasons", desk.refusal(SET), 2);
        desk.setLimit(3);
        Checks.same("four reasons", desk.refusal(SET), 3);
        desk.bar(1, 0, false);
        Checks.same("three reasons", desk.refusal(SET), 4);
        desk.need(2, 3, false);
        Checks.same("two reasons", desk.refusal(SET), 5);
        desk.must(4, false);
        Checks.same("one reason", desk.refusal(SET), 6);
        desk.never(0, false);
        Checks.same("no reason", desk.refusal(SET), 0);
        // Each reason alone ahead of the last one.
        for (int reason = 1; reason <= 5; reason++) {
            ParetoDesk one = Checks.deskOf("capacity 99 limit 9;" + "item weight 2 gain 1 joy 6;".repeat(6) + "never 0;");
            tell(one, reason);
            Checks.same("reason " + reason + " and 6", one.refusal(SET), reason);
            one.never(0, false);
            Checks.same("reason " + reason + " alone", one.refusal(SET), reason);
            one.undo();
            one.undo();
            Checks.same("reason 6 alone", one.refusal(SET), 6);
        }
    }

    private static void tell(ParetoDesk desk, int reason) {
        switch (reason) {
            case 1: desk.setCapacity(5); break;
            case 2: desk.setLimit(2); break;
            case 3: desk.bar(2, 1, true); break;
            case 4: desk.need(0, 5, true); break;
            default: desk.must(3, true); break;
        }
    }

    private static void reasonWeight() {
        Checks.sentence("2. CHOICES", "1 its weight is greater than the capacity");
        ParetoDesk desk = Checks.deskOf("capacity 0 limit 12; item weight 1 gain 1 joy 1; item weight 0 gain 1 joy 1;"
            + "item weight 99 gain 1 joy 1;");
        Checks.same("no weight, no capacity", desk.refusal(2), 0);
        Checks.same("a weight of 1, no capacity", desk.refusal(1), 1);
        desk.setCapacity(1);
        Checks.same("a weight of 1, a capacity of 1", desk.refusal(1), 0);
        desk.setCapacity(99);
        Checks.same("a weight of 100, a capacity of 99", desk.refusal(5), 1);
        desk.setCapacity(100);
        Checks.same("a weight of 100, a capacity of 100", desk.refusal(7), 0);
        ParetoDesk heavy = new ParetoDesk();
        heavy.setCapacity(999);
        for (int i = 0; i < 12; i++) {
            heavy.addItem(i == 10 ? 9 : 99, 1, 1);
        }
        Checks.same("a weight of 999", heavy.refusal(2047), 0);
        heavy.setItem(10, 0, 10);
        Checks.same("a weight of 1000", heavy.refusal(2047), 1);
        Checks.same("a weight of 1099", heavy.refusal(4095), 1);
    }

    private static void reasonLimit() {
        Checks.sentence("2. CHOICES", "2 it has more items than the limit");
        ParetoDesk desk = Desks.twelve(1, 1);
        Checks.same("twelve items, a limit of 12", desk.refusal(4095), 0);
        desk.setLimit(11);
        Checks.same("twelve items, a limit of 11", desk.refusal(4095), 2);
        Checks.same("eleven items, a limit of 11", desk.refusal(4095 - 32), 0);
        desk.setLimit(1);
        Checks.same("one item, a limit of 1", desk.refusal(2048), 0);
        Checks.same("two items, a limit of 1", desk.refusal(2049), 2);
        desk.setLimit(0);
        Checks.same("no item, a limit of 0", desk.refusal(0), 0);
        Checks.same("one item, a limit of 0", desk.refusal(1), 2);
    }

    private static void reasonBar() {
        Checks.sentence("2. CHOICES", "3 it has two items that do not go together");
        ParetoDesk desk = Desks.twelve(1, 1);
        desk.bar(11, 0, true);
        Checks.same("the first and the last item", desk.refusal(2049), 3);
        Checks.same("all items", desk.refusal(4095), 3);
        Checks.same("the first one alone", desk.refusal(1), 0);
        Checks.same("the last one alone", desk.refusal(2048), 0);
        Checks.same("neither", desk.refusal(2046), 0);
        // Of three items no two go together: all three do not, either.
        desk.bar(11, 5, true);
        desk.bar(5, 0, true);
        Checks.same("three, no two of which go together", desk.refusal(2048 + 32 + 1), 3);
        Checks.same("two of them", desk.refusal(32 + 1), 3);
        Checks.same("one of them", desk.refusal(32), 0);
        desk.bar(11, 0, false);
        Checks.same("two that both do not go with a third one", desk.refusal(2048 + 1), 0);
        Checks.same("with the third one", desk.refusal(2048 + 32 + 1), 3);
    }

    private static void reasonNeed() {
        Checks.sentence("2. CHOICES", "4 it has an item, but not one that this needs");
        ParetoDesk desk = Desks.twelve(1, 1);
        desk.need(11, 0, true);
        desk.need(11, 1, true);
        Checks.same("the last one alone", desk.refusal(2048), 4);
        Checks.same("with one of two", desk.refusal(2048 + 1), 4);
        Checks.same("with the other one of two", desk.refusal(2048 + 2), 4);
        Checks.same("with both", desk.refusal(2048 + 3), 0);
        Checks.same("what is needed, alone", desk.refusal(1), 0);
        Checks.same("no items", desk.refusal(0), 0);
        desk.need(10, 0, true);
        Checks.same("two that need the same one", desk.refusal(2048 + 1024 + 2), 4);
        Checks.same("two that need the same one, with it", desk.refusal(2048 + 1024 + 3), 0);
        desk.need(0, 1, true);
        Checks.same("one that needs what needs another one", desk.refusal(1024 + 1), 4);
        Checks.same("with both", desk.refusal(1024 + 3), 0);
        desk.bar(0, 1, true);
        Checks.same("needed ones that do not go together", desk.refusal(2048 + 3), 3);
    }

    private static void reasonMust() {
        Checks.sentence("2. CHOICES", "5 it does not have an item that it must have");
        ParetoDesk desk = Desks.twelve(1, 1);
        desk.must(0, true);
        desk.must(11, true);
        Checks.same("no items", desk.refusal(0), 5);
        Checks.same("one of two", desk.refusal(1), 5);
        Checks.same("the other one of two", desk.refusal(2048), 5);
        Checks.same("both", desk.refusal(2049), 0);
        Checks.same("all", desk.refusal(4095), 0);
        Checks.same("allowed()", desk.allowed(), 1024);
    }

    private static void reasonNever() {
        Checks.sentence("2. CHOICES", "6 it has an item that it may never have");
        ParetoDesk desk = Desks.twelve(1, 1);
        desk.never(11, true);
        Checks.same("no items", desk.refusal(0), 0);
        Checks.same("the last one", desk.refusal(2048), 6);
        Checks.same("all", desk.refusal(4095), 6);
        Checks.same("all others", desk.refusal(2047), 0);
        desk.must(11, true);
        Checks.same("what it must and may never have", desk.refusal(2048), 6);
        Checks.same("without it", desk.refusal(0), 5);
        Checks.same("allowed()", desk.allowed(), 0);
    }

    private static void allowedOtherwise() {
        Checks.sentence("Promise 9", "Returns the reason for which this choice is refused; 0 if it is allowed.");
        ParetoDesk desk = Desks.line();
        int allowed = 0;
        for (int set = 0; set < 400; set++) {
            boolean both = (set & 1) != 0 && (set & 64) != 0 || (set & 2) != 0 && (set & 128) != 0
                || (set & 4) != 0 && (set & 256) != 0;
            Checks.same("refusal(" + set + ")", desk.refusal(set), both ? 3 : 0);
            allowed += both ? 0 : 1;
        }
        Checks.same("some are allowed", allowed > 100, true);
    }

    private static void refusalOfNoItems() {
        Checks.sentence("Promise 9", "`set`: a set of items");
        ParetoDesk desk = new ParetoDesk();
        Checks.same("the empty choice of no items", desk.refusal(0), 0);
        Checks.badArgument("a choice of one item of none", () -> desk.refusal(1));
        desk.setCapacity(0);
        desk.setLimit(0);
        Checks.same("the empty choice of no capacity", desk.refusal(0), 0);
    }

    private static void sumsOfTheItems() {
        Checks.sentence("2. CHOICES", "Its weight, gain and joy are the sums of those of its items.");
        ParetoDesk desk = new ParetoDesk();
        Checks.same("no items", desk.sum(0, 0) + desk.sum(0, 1) + desk.sum(0, 2), 0);
        for (int i = 0; i < 12; i++) {
            desk.addItem(99, 99, 99);
        }
        for (int what = 0; what <= 2; what++) {
            Checks.same(Desks.named("sum", 4095, what), desk.sum(4095, what), 1188);
            Checks.same(Desks.named("sum", 0, what), desk.sum(0, what), 0);
            Checks.same(Desks.named("sum", 2048, what), desk.sum(2048, what), 99);
        }
        desk.setItem(11, 0, 0);
        desk.setItem(11, 1, 1);
        desk.setItem(11, 2, 2);
        Checks.same("sum(2049, 0)", desk.sum(2049, 0), 99);
        Checks.same("sum(2049, 1)", desk.sum(2049, 1), 100);
        Checks.same("sum(2049, 2)", desk.sum(2049, 2), 101);
    }

    private static void sumOutOfRange() {
        Checks.sentence("Promise 10", "Throws `IllegalArgumentException` if set or what is out of range");
        ParetoDesk desk = Desks.none();
        Checks.same("sum(3, 2)", desk.sum(3, 2), 5);
        Checks.badArgument("sum(3, 3)", () -> desk.sum(3, 3));
        Checks.badArgument("sum(4, 2)", () -> desk.sum(4, 2));
        Checks.badArgument("sum(4, 3)", () -> desk.sum(4, 3));
        for (int far : Desks.FAR) {
            Checks.badArgument(Desks.named("sum", far, 0), () -> desk.sum(far, 0));
            Checks.badArgument(Desks.named("sum", 0, far), () -> desk.sum(0, far));
        }
        Checks.badArgument("sum(1, 0) of no items", () -> new ParetoDesk().sum(1, 0));
        Checks.badArgument("sum(4096, 0) of twelve", () -> Desks.twelve(0, 0).sum(4096, 0));
    }

    private static void numberOfAllowedChoices() {
        Checks.sentence("Promise 11", "Returns the number of allowed choices.");
        Checks.same("of no items", new ParetoDesk().allowed(), 1);
        Checks.same("where none is allowed", Desks.none().allowed(), 0);
        ParetoDesk full = Desks.twelve(1, 1);
        Checks.same("of twelve free items", full.allowed(), 4096);
        full.setLimit(11);
        Checks.same("of eleven free ones", full.allowed(), 4095);
        full.setLimit(0);
        Checks.same("of none of them", full.allowed(), 1);
        Checks.same("of pairs that do not go together", Desks.line().allowed(), 729);
        ParetoDesk one = new ParetoDesk();
        one.addItem(21, 1, 1);
        Checks.same("with an item too heavy", one.allowed(), 1);
        one.must(0, true);
        Checks.same("with a must too heavy", one.allowed(), 0);
        one.setCapacity(21);
        Checks.same("with a must not too heavy", one.allowed(), 1);
        one.dropItem(0);
        Checks.same("without the must", one.allowed(), 1);
    }
}
