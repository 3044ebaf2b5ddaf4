import java.util.ArrayList;
import java.util.List;
import java.util.NoSuchElementException;
import java.util.Set;
import java.util.TreeSet;
import java.util.regex.Matcher;
import java.util.regex.Pattern;

/**
 * Each call that throws: which exception, where several apply the one that is named first, and that the call changes
 * nothing: a desk behind it is the same as a twin that was not called.
 */
public final class RefusedCallsTest {
    private interface Use {
        void on(ParetoDesk desk);
    }

    private interface Maker {
        ParetoDesk make();
    }

    private record Row(int promise, Class<?> due, String name, Maker maker, Use use) {
    }

    private static final Class<?> BOUNDS = IndexOutOfBoundsException.class;
    private static final Class<?> ARGUMENT = IllegalArgumentException.class;
    private static final Class<?> STATE = IllegalStateException.class;
    private static final Class<?> ELEMENT = NoSuchElementException.class;
    private static final List<Row> ROWS = new ArrayList<>();

    public static void main(String[] args) {
        inputRows();
        questionRows();
        pointRows();
        whatIfRows();
        itemRows();
        ruleRows();
        handRows();
        slotRows();
        for (Row row : ROWS) {
            Checks.sentence("EXCEPTIONS", "A call that throws changes nothing.");
            refuse(row, row.maker);
        }
        firstNamed();
        everyThrowOfTheDocument();
        Checks.end("RefusedCallsTest");
    }

    private static void refuse(Row row, Maker maker) {
        ParetoDesk desk = maker.make();
        Checks.throwing("promise " + row.promise + ", " + row.name, row.due, () -> row.use.on(desk));
        Checks.sameText("the desk behind " + row.name, everything(desk), everything(maker.make()));
    }

    private static void add(int promise, Class<?> due, String name, Use use) {
        ROWS.add(new Row(promise, due, name, RefusedCallsTest::rich, use));
    }

    private static void add(int promise, Class<?> due, String name, Maker maker, Use use) {
        ROWS.add(new Row(promise, due, name, maker, use));
    }

    // ---- desks ----

    /** Three items with rules, two points, eight calls to undo, a parse error, slot 0 kept, output and input. */
    private static ParetoDesk rich() {
        ParetoDesk desk = new ParetoDesk();
        desk.setLimit(11);
        desk.keep(0);
        Checks.load(desk, "capacity 9 limit 2; item weight 1 gain 5 joy 2; item weight 2 gain 2 joy 5;"
            + "item weight 3 gain 3 joy 3; bar 0 1; need 2 1;");
        desk.setCapacity(8);
        desk.setCapacity(7);
        desk.setItem(0, 0, 2);
        desk.must(2, true);
        desk.must(2, false);
        desk.never(2, true);
        desk.take(1);
        desk.setLimit(3);
        Checks.load(desk, "capacity 9 limit 13;");
        desk.writeFrontier();
        Checks.give(desk, "capacity 5 limit 4; item weight 1 gain 1");
        return desk;
    }

    private static ParetoDesk fresh() {
        return new ParetoDesk();
    }

    /** Twelve items, all at hand, and 600 bytes of input. */
    private static ParetoDesk full() {
        ParetoDesk desk = Desks.twelve(1, 1);
        desk.choose(4095);
        desk.writeChoices();
        Checks.give(desk, "capacity 6 limit 3;" + " ".repeat(581));
        return desk;
    }

    // ---- what a desk is, as a text; this asks what changes it, too ----

    private static String everything(ParetoDesk desk) {
        StringBuilder text = new StringBuilder(Checks.state(desk));
        text.append("| error ").append(desk.errorCode()).append(' ').append(desk.errorPosition());
        text.append("| frontier ").append(desk.points()).append(' ').append(desk.allowed()).append(' ').append(desk.area())
            .append(' ').append(desk.steps()).append(' ').append(desk.layers());
        text.append("| output ");
        for (int i = 0; i < 40 && hasByte(desk, i); i++) {
            text.append((char) desk.outputByte(i));
        }
        text.append("| undo ").append(desk.undoCount());
        for (int i = desk.undoCount(); i > 0; i--) {
            desk.undo();
            for (int what = 0; what <= 7; what++) {
                text.append(' ').append(desk.property(what));
            }
        }
        text.append("| input ").append(inputLength(desk)).append(' ').append(desk.load()).append(' ').append(desk.errorCode())
            .append(' ').append(desk.errorPosition()).append(' ').append(desk.property(1));
        for (int slot = 0; slot < 2; slot++) {
            text.append("| slot ").append(restored(desk, slot)).append(' ').append(desk.property(2));
        }
        return text.toString();
    }

    private static boolean hasByte(ParetoDesk desk, int index) {
        try {
            desk.outputByte(index);
            return true;
        } catch (IndexOutOfBoundsException e) {
            return false;
        }
    }

    private static int inputLength(ParetoDesk desk) {
        try {
            return desk.append(0x20202020, 0x20202020, 0x20202020, 0x20202020, 0x20202020) - 20;
        } catch (IllegalStateException e) {
            return 600;
        }
    }

    private static boolean restored(ParetoDesk desk, int slot) {
        try {
            desk.restore(slot);
            return true;
        } catch (IllegalStateException e) {
            return false;
        }
    }

    // ---- the calls ----

    private static void inputRows() {
        add(2, STATE, "append() to a full buffer", RefusedCallsTest::full, desk -> desk.append(1, 2, 3, 4, 5));
        add(3, ARGUMENT, "truncate(-1)", desk -> desk.truncate(-1));
        add(3, ARGUMENT, "truncate(41)", desk -> desk.truncate(41));
        add(3, ARGUMENT, "truncate(1) of an empty buffer", RefusedCallsTest::fresh, desk -> desk.truncate(1));
        add(3, ARGUMENT, "truncate(601)", RefusedCallsTest::full, desk -> desk.truncate(601));
        add(65, BOUNDS, "outputByte(-1)", desk -> desk.outputByte(-1));
        add(65, BOUNDS, "outputByte(9)", desk -> desk.outputByte(9));
        add(65, BOUNDS, "outputByte(0) of nothing", RefusedCallsTest::fresh, desk -> desk.outputByte(0));
        add(65, BOUNDS, "outputByte(13)", RefusedCallsTest::full, desk -> desk.outputByte(13));
    }

    private static void questionRows() {
        add(7, ARGUMENT, "property(8)", desk -> desk.property(8));
        add(7, ARGUMENT, "property(-1)", desk -> desk.property(-1));
        add(8, BOUNDS, "item(3, 0)", desk -> desk.item(3, 0));
        add(8, BOUNDS, "item(-1, 4)", desk -> desk.item(-1, 4));
        add(8, ARGUMENT, "item(2, 5)", desk -> desk.item(2, 5));
        add(8, ARGUMENT, "item(2, -1)", desk -> desk.item(2, -1));
        for (int set : new int[] {8, -1}) {
            add(9, ARGUMENT, Desks.named("refusal", set), desk -> desk.refusal(set));
            add(10, ARGUMENT, Desks.named("sum", set, 0), desk -> desk.sum(set, 0));
            add(15, ARGUMENT, Desks.named("pointOf", set), desk -> desk.pointOf(set));
            add(16, ARGUMENT, Desks.named("beatenBy", set), desk -> desk.beatenBy(set));
            add(38, ARGUMENT, Desks.named("nearTo", set), desk -> desk.nearTo(set));
            add(42, ARGUMENT, Desks.named("layerOf", set), desk -> desk.layerOf(set));
        }
        add(10, ARGUMENT, "sum(7, 3)", desk -> desk.sum(7, 3));
        add(10, ARGUMENT, "sum(0, -1)", desk -> desk.sum(0, -1));
    }

    private static void pointRows() {
        for (int point : new int[] {2, -1}) {
            add(13, BOUNDS, Desks.named("point", point, 0), desk -> desk.point(point, 0));
            add(14, BOUNDS, Desks.named("lightest", point), desk -> desk.lightest(point));
            add(39, BOUNDS, Desks.named("apart", point, 0), desk -> desk.apart(point, 0));
            add(39, BOUNDS, Desks.named("apart", 0, point), desk -> desk.apart(0, point));
            add(23, BOUNDS, Desks.named("vertex", point), desk -> desk.vertex(point));
        }
        add(13, BOUNDS, "point(0, 0) without points", Desks::none, desk -> desk.point(0, 0));
        add(14, BOUNDS, "lightest(0) without points", Desks::none, desk -> desk.lightest(0));
        add(39, BOUNDS, "apart(0, 0) without points", Desks::none, desk -> desk.apart(0, 0));
        add(23, BOUNDS, "vertex(0) without points", Desks::none, desk -> desk.vertex(0));
        add(13, ARGUMENT, "point(1, 7)", desk -> desk.point(1, 7));
        add(13, ARGUMENT, "point(1, -1)", desk -> desk.point(1, -1));
        add(25, BOUNDS, "box(1, 0)", desk -> desk.box(1, 0));
        add(25, BOUNDS, "box(-1, 0)", desk -> desk.box(-1, 0));
        add(25, BOUNDS, "box(0, 0) of one point", RefusedCallsTest::fresh, desk -> desk.box(0, 0));
        add(25, ARGUMENT, "box(0, 5)", desk -> desk.box(0, 5));
        add(25, ARGUMENT, "box(0, -1)", desk -> desk.box(0, -1));
        add(27, ARGUMENT, "step(0, 5)", desk -> desk.step(0, 5));
        add(27, ARGUMENT, "step(0, -1)", desk -> desk.step(0, -1));
        add(27, ELEMENT, "step(1, 0)", desk -> desk.step(1, 0));
        add(27, ELEMENT, "step(-1, 0)", desk -> desk.step(-1, 0));
        add(27, ELEMENT, "step(0, 0) of one point", RefusedCallsTest::fresh, desk -> desk.step(0, 0));
        add(41, BOUNDS, "layerSize(2)", desk -> desk.layerSize(2));
        add(41, BOUNDS, "layerSize(-1)", desk -> desk.layerSize(-1));
        add(41, BOUNDS, "layerSize(0) without points", Desks::none, desk -> desk.layerSize(0));
    }

    private static void whatIfRows() {
        for (int item : new int[] {3, -1}) {
            add(34, BOUNDS, Desks.named("lostWithout", item), desk -> desk.lostWithout(item));
            add(35, BOUNDS, Desks.named("worth", item), desk -> desk.worth(item));
        }
        add(36, ARGUMENT, "pointsWith(1000)", desk -> desk.pointsWith(1000));
        add(36, ARGUMENT, "pointsWith(-1)", desk -> desk.pointsWith(-1));
        int[][] wrong = {{0, 0}, {-1, 5}, {5, -1}, {100, 5}, {5, 100}};
        for (int[] w : wrong) {
            add(20, ARGUMENT, Desks.named("best", w), desk -> desk.best(w[0], w[1]));
            add(21, ARGUMENT, Desks.named("nearest", w), desk -> desk.nearest(w[0], w[1]));
            add(43, ARGUMENT, Desks.named("climb", w), desk -> desk.climb(w[0], w[1]));
            add(55, ARGUMENT, Desks.named("chooseBest", w), desk -> desk.chooseBest(w[0], w[1]));
            add(56, ARGUMENT, Desks.named("improve", w), desk -> desk.improve(w[0], w[1]));
        }
        add(55, STATE, "chooseBest(1, 1) without points", Desks::none, desk -> desk.chooseBest(1, 1));
    }

    private static void itemRows() {
        for (int far : new int[] {-1, 100}) {
            add(45, ARGUMENT, Desks.named("addItem", far, 1, 1), desk -> desk.addItem(far, 1, 1));
            add(45, ARGUMENT, Desks.named("addItem", 1, far, 1), desk -> desk.addItem(1, far, 1));
            add(45, ARGUMENT, Desks.named("addItem", 1, 1, far), desk -> desk.addItem(1, 1, far));
            add(47, ARGUMENT, Desks.named("setItem", 2, 0, far), desk -> desk.setItem(2, 0, far));
        }
        add(45, STATE, "addItem(1, 1, 1) behind twelve", RefusedCallsTest::full, desk -> desk.addItem(1, 1, 1));
        add(46, BOUNDS, "dropItem(3)", desk -> desk.dropItem(3));
        add(46, BOUNDS, "dropItem(-1)", desk -> desk.dropItem(-1));
        add(46, BOUNDS, "dropItem(0) of no items", RefusedCallsTest::fresh, desk -> desk.dropItem(0));
        add(47, BOUNDS, "setItem(3, 0, 1)", desk -> desk.setItem(3, 0, 1));
        add(47, BOUNDS, "setItem(-1, 0, 1)", desk -> desk.setItem(-1, 0, 1));
        add(47, ARGUMENT, "setItem(2, 3, 1)", desk -> desk.setItem(2, 3, 1));
        add(47, ARGUMENT, "setItem(2, -1, 1)", desk -> desk.setItem(2, -1, 1));
        add(48, ARGUMENT, "setCapacity(1000)", desk -> desk.setCapacity(1000));
        add(48, ARGUMENT, "setCapacity(-1)", desk -> desk.setCapacity(-1));
        add(49, ARGUMENT, "setLimit(13)", desk -> desk.setLimit(13));
        add(49, ARGUMENT, "setLimit(-1)", desk -> desk.setLimit(-1));
    }

    private static void ruleRows() {
        int[][] pairs = {{3, 0}, {0, 3}, {-1, 0}, {0, -1}};
        for (int[] pair : pairs) {
            add(50, BOUNDS, Desks.named("bar", pair), desk -> desk.bar(pair[0], pair[1], true));
            add(51, BOUNDS, Desks.named("need", pair), desk -> desk.need(pair[0], pair[1], true));
        }
        for (boolean on : new boolean[] {true, false}) {
            add(50, ARGUMENT, "bar(1, 1)", desk -> desk.bar(1, 1, on));
            add(51, ARGUMENT, "need(1, 1)", desk -> desk.need(1, 1, on));
            add(52, BOUNDS, "must(3)", desk -> desk.must(3, on));
            add(52, BOUNDS, "must(-1)", desk -> desk.must(-1, on));
            add(53, BOUNDS, "never(3)", desk -> desk.never(3, on));
            add(53, BOUNDS, "never(-1)", desk -> desk.never(-1, on));
        }
    }

    private static void handRows() {
        add(54, ARGUMENT, "choose(8)", desk -> desk.choose(8));
        add(54, ARGUMENT, "choose(-1)", desk -> desk.choose(-1));
        add(54, STATE, "choose(3) of what does not go together", desk -> desk.choose(3));
        add(54, STATE, "choose(0) where none is allowed", Desks::none, desk -> desk.choose(0));
        add(57, BOUNDS, "take(3)", desk -> desk.take(3));
        add(57, BOUNDS, "take(-1)", desk -> desk.take(-1));
        add(57, STATE, "take(1) again", desk -> desk.take(1));
        add(57, STATE, "take(0) of what does not go together", desk -> desk.take(0));
        add(57, STATE, "take(2) of what no choice may have", desk -> desk.take(2));
        add(57, STATE, "take(11) again", RefusedCallsTest::full, desk -> desk.take(11));
        add(58, BOUNDS, "leave(3)", desk -> desk.leave(3));
        add(58, BOUNDS, "leave(-1)", desk -> desk.leave(-1));
        add(58, STATE, "leave(0) of what it does not have", desk -> desk.leave(0));
        add(58, STATE, "leave(0) of what each choice must have", RefusedCallsTest::mustAtHand, desk -> desk.leave(0));
    }

    private static ParetoDesk mustAtHand() {
        ParetoDesk desk = Desks.ofPairs(1, 1, 2, 2);
        desk.must(0, true);
        desk.take(0);
        return desk;
    }

    private static void slotRows() {
        add(59, BOUNDS, "keep(2)", desk -> desk.keep(2));
        add(59, BOUNDS, "keep(-1)", desk -> desk.keep(-1));
        add(60, BOUNDS, "restore(2)", desk -> desk.restore(2));
        add(60, BOUNDS, "restore(-1)", desk -> desk.restore(-1));
        add(60, STATE, "restore(1) of an empty slot", desk -> desk.restore(1));
        add(60, STATE, "restore(0) of a new desk", RefusedCallsTest::fresh, desk -> desk.restore(0));
        add(61, STATE, "undo() of nothing", RefusedCallsTest::fresh, desk -> desk.undo());
    }

    // ---- several exceptions ----

    private static void firstNamed() {
        List<Row> rows = List.of(
            new Row(8, BOUNDS, "item(3, 5)", RefusedCallsTest::rich, desk -> desk.item(3, 5)),
            new Row(8, BOUNDS, "item(0, 5) of no items", RefusedCallsTest::fresh, desk -> desk.item(0, 5)),
            new Row(13, BOUNDS, "point(2, 7)", RefusedCallsTest::rich, desk -> desk.point(2, 7)),
            new Row(13, BOUNDS, "point(0, -1) without points", Desks::none, desk -> desk.point(0, -1)),
            new Row(25, BOUNDS, "box(1, 5)", RefusedCallsTest::rich, desk -> desk.box(1, 5)),
            new Row(25, BOUNDS, "box(0, -1) of one point", RefusedCallsTest::fresh, desk -> desk.box(0, -1)),
            new Row(27, ARGUMENT, "step(1, 5)", RefusedCallsTest::rich, desk -> desk.step(1, 5)),
            new Row(27, ARGUMENT, "step(-1, -1) of one point", RefusedCallsTest::fresh, desk -> desk.step(-1, -1)),
            new Row(45, ARGUMENT, "addItem(100, 1, 1) behind twelve", RefusedCallsTest::full, desk -> desk.addItem(100, 1, 1)),
            new Row(45, ARGUMENT, "addItem(1, -1, 1) behind twelve", RefusedCallsTest::full, desk -> desk.addItem(1, -1, 1)),
            new Row(45, ARGUMENT, "addItem(1, 1, 100) behind twelve", RefusedCallsTest::full, desk -> desk.addItem(1, 1, 100)),
            new Row(47, BOUNDS, "setItem(3, 3, 100)", RefusedCallsTest::rich, desk -> desk.setItem(3, 3, 100)),
            new Row(47, BOUNDS, "setItem(-1, 0, 100)", RefusedCallsTest::rich, desk -> desk.setItem(-1, 0, 100)),
            new Row(50, BOUNDS, "bar(3, 3)", RefusedCallsTest::rich, desk -> desk.bar(3, 3, true)),
            new Row(51, BOUNDS, "need(-1, -1)", RefusedCallsTest::rich, desk -> desk.need(-1, -1, true)),
            new Row(54, ARGUMENT, "choose(-1) where none is allowed", Desks::none, desk -> desk.choose(-1)),
            new Row(54, ARGUMENT, "choose(4) where none is allowed", Desks::none, desk -> desk.choose(4)),
            new Row(55, ARGUMENT, "chooseBest(0, 0) without points", Desks::none, desk -> desk.chooseBest(0, 0)),
            new Row(55, ARGUMENT, "chooseBest(1, 100) without points", Desks::none, desk -> desk.chooseBest(1, 100)),
            new Row(57, BOUNDS, "take(2) where none is allowed", Desks::none, desk -> desk.take(2)),
            new Row(57, BOUNDS, "take(32) of twelve at hand", RefusedCallsTest::full, desk -> desk.take(32)),
            new Row(58, BOUNDS, "leave(2) where none is allowed", Desks::none, desk -> desk.leave(2)),
            new Row(58, BOUNDS, "leave(-1) of no items", RefusedCallsTest::fresh, desk -> desk.leave(-1)),
            new Row(60, BOUNDS, "restore(2) with nothing kept", RefusedCallsTest::fresh, desk -> desk.restore(2)));
        for (Row row : rows) {
            Checks.sentence("EXCEPTIONS", "If several exceptions apply, the one that is named first in the method's throws clause is"
                + " thrown.");
            refuse(row, row.maker);
        }
        ROWS.addAll(rows);
    }

    /** Each "Throws" of the document has a row, and no row throws what the document does not say. */
    private static void everyThrowOfTheDocument() {
        Checks.sentence("EXCEPTIONS", "If several exceptions apply");
        Set<String> told = new TreeSet<>();
        Pattern thrown = Pattern.compile("Throws `(\\w+)`");
        for (int promise = 1; promise <= 65; promise++) {
            Matcher matcher = thrown.matcher(Document.parts().get("Promise " + promise));
            while (matcher.find()) {
                told.add(promise + " " + matcher.group(1));
            }
        }
        Set<String> made = new TreeSet<>();
        for (Row row : ROWS) {
            made.add(row.promise + " " + row.due.getSimpleName());
        }
        Checks.sameText("the rows", made.toString(), told.toString());
        Checks.same("some throw", told.size() > 40, true);
    }
}
