import java.util.ArrayList;
import java.util.List;

/**
 * What was asked ahead of a change is not answered again behind it: each question, as the first one behind each change,
 * gives a desk that was asked for everything before the answer of a desk that was asked for nothing.
 */
public final class FreshAnswersTest {
    private interface Ask {
        Object of(ParetoDesk desk);
    }

    private interface Change {
        void on(ParetoDesk desk);
    }

    private interface Maker {
        ParetoDesk make();
    }

    private record Question(String name, Ask ask) {
    }

    private static final List<Question> QUESTIONS = new ArrayList<>();
    private static final List<Change> CHANGES = List.of(
        desk -> desk.addItem(1, 40, 40),
        desk -> desk.addItem(0, 0, 0),
        desk -> desk.dropItem(0),
        desk -> desk.dropItem(desk.property(0) - 1),
        desk -> desk.setItem(0, 0, 99),
        desk -> desk.setItem(1, 1, 60),
        desk -> desk.setItem(1, 2, 70),
        desk -> desk.setCapacity(2),
        desk -> desk.setCapacity(0),
        desk -> desk.setLimit(0),
        desk -> desk.setLimit(1),
        desk -> desk.setLimit(2),
        desk -> desk.bar(0, 1, true),
        desk -> desk.need(1, 2, true),
        desk -> desk.must(1, true),
        desk -> desk.never(2, true),
        desk -> { desk.must(1, true); desk.never(1, true); },
        desk -> { desk.must(1, true); desk.points(); desk.must(1, false); },
        desk -> desk.choose(2),
        desk -> desk.chooseBest(1, 0),
        desk -> desk.improve(0, 1),
        desk -> desk.take(1),
        desk -> desk.leave(0),
        desk -> desk.restore(0),
        desk -> desk.restore(1),
        desk -> desk.undo(),
        desk -> { desk.undo(); desk.undo(); },
        desk -> Checks.load(desk, "capacity 9 limit 1; item weight 1 gain 3 joy 1; item weight 1 gain 1 joy 4;"),
        desk -> Checks.load(desk, "capacity 9 limit 1;"));

    public static void main(String[] args) {
        askOfRulesAndSums();
        askOfPoints();
        askOfTheShape();
        askOfWhatIfs();
        askWhatChanges();
        for (Maker maker : List.<Maker>of(FreshAnswersTest::many, FreshAnswersTest::few)) {
            for (int change = 0; change < CHANGES.size(); change++) {
                for (Question question : QUESTIONS) {
                    compare(maker, change, question);
                }
            }
        }
        for (Maker maker : List.<Maker>of(FreshAnswersTest::many, FreshAnswersTest::few, FreshAnswersTest::bow)) {
            for (int change = 0; change < CHANGES.size(); change++) {
                compareWithText(maker, change);
            }
        }
        Checks.end("FreshAnswersTest");
    }

    private static void compare(Maker maker, int change, Question question) {
        ParetoDesk asked = maker.make();
        for (Question one : QUESTIONS) {
            if (!one.name.startsWith("change ")) {
                answer(asked, one.ask);
            }
        }
        ParetoDesk silent = maker.make();
        CHANGES.get(change).on(asked);
        CHANGES.get(change).on(silent);
        String name = question.name + " behind change " + change;
        Checks.sameText(name, answer(asked, question.ask), answer(silent, question.ask));
        Checks.sameText("points() behind " + name, answer(asked, ParetoDesk::points), answer(silent, ParetoDesk::points));
    }

    /** A desk that was asked and changed answers as one that is told the same items and rules by a text. */
    private static void compareWithText(Maker maker, int change) {
        Checks.sentence("Promise 4", "On success everything but the two slots and the output buffer is that of the text.");
        ParetoDesk desk = maker.make();
        for (Question question : QUESTIONS) {
            if (!asksOfTheHand(question)) {
                answer(desk, question.ask);
            }
        }
        try {
            CHANGES.get(change).on(desk);
        } catch (IllegalStateException e) {
            Checks.same("change " + change + " is one of the choice at hand", change >= 18 && change <= 22, true);
        }
        ParetoDesk told = Checks.deskOf(textOf(desk));
        for (Question question : QUESTIONS) {
            if (!asksOfTheHand(question)) {
                Checks.sameText(question.name + " behind change " + change, answer(desk, question.ask), answer(told, question.ask));
            }
        }
    }

    private static boolean asksOfTheHand(Question question) {
        return question.name.startsWith("change ") || question.name.startsWith("climb") || question.name.startsWith("undo")
            || question.name.equals("property(7)");
    }

    private static String textOf(ParetoDesk desk) {
        StringBuilder text = new StringBuilder("capacity " + desk.property(1) + " limit " + desk.property(2) + ";");
        int items = desk.property(0);
        for (int item = 0; item < items; item++) {
            text.append("item weight ").append(desk.item(item, 0)).append(" gain ").append(desk.item(item, 1)).append(" joy ")
                .append(desk.item(item, 2)).append(';');
        }
        for (int item = 0; item < items; item++) {
            for (int other = 0; other < items; other++) {
                text.append(other < item && (desk.item(item, 3) >> other & 1) != 0 ? "bar " + item + " " + other + ";" : "");
                text.append((desk.item(item, 4) >> other & 1) != 0 ? "need " + item + " " + other + ";" : "");
            }
            text.append((desk.property(5) >> item & 1) != 0 ? "must " + item + ";" : "");
            text.append((desk.property(6) >> item & 1) != 0 ? "never " + item + ";" : "");
        }
        return text.toString();
    }

    private static String answer(ParetoDesk desk, Ask ask) {
        try {
            return String.valueOf(ask.of(desk));
        } catch (RuntimeException e) {
            return "throws " + e.getClass().getName();
        }
    }

    /** Some choices of few items at hand, two small desks in the slots. */
    private static ParetoDesk prepared() {
        ParetoDesk desk = new ParetoDesk();
        desk.keep(1);
        desk.addItem(1, 2, 3);
        desk.addItem(2, 3, 2);
        desk.setLimit(1);
        desk.keep(0);
        desk.setLimit(12);
        return desk;
    }

    private static ParetoDesk many() {
        ParetoDesk desk = prepared();
        int[] gains = {1, 2, 4, 8, 16, 0, 0, 0, 0, 0};
        int[] joys = {0, 0, 0, 0, 0, 3, 4, 9, 17, 40};
        desk.dropItem(0);
        desk.dropItem(0);
        for (int i = 0; i < 10; i++) {
            desk.addItem(1 + i % 2, gains[i], joys[i]);
        }
        desk.choose(1);
        desk.setLimit(5);
        desk.setCapacity(7);
        return desk;
    }

    /** Eleven points, each of which is a vertex. */
    private static ParetoDesk bow() {
        ParetoDesk desk = new ParetoDesk();
        desk.keep(1);
        desk.addItem(1, 5, 5);
        desk.keep(0);
        desk.dropItem(0);
        int[] joys = {99, 98, 96, 93, 89, 84, 78, 71, 63, 54, 44};
        for (int i = 0; i < joys.length; i++) {
            desk.addItem(1 + i % 3, i, joys[i]);
        }
        desk.setLimit(1);
        return desk;
    }

    private static ParetoDesk few() {
        ParetoDesk desk = prepared();
        desk.addItem(3, 9, 1);
        desk.addItem(3, 6, 7);
        desk.choose(1);
        desk.setCapacity(4);
        return desk;
    }

    private static void add(String name, Ask ask) {
        QUESTIONS.add(new Question(name, ask));
    }

    private static void askOfRulesAndSums() {
        for (int i = 0; i <= 7; i++) {
            int what = i;
            add(Desks.named("property", what), desk -> desk.property(what));
        }
        for (int i = 0; i <= 4; i++) {
            int what = i;
            add(Desks.named("item", 1, what), desk -> desk.item(1, what));
        }
        for (int i = 0; i <= 2; i++) {
            int what = i;
            add(Desks.named("sum", 3, what), desk -> desk.sum(3, what));
        }
        for (int one : new int[] {0, 3, 6}) {
            add(Desks.named("refusal", one), desk -> desk.refusal(one));
            add(Desks.named("pointOf", one), desk -> desk.pointOf(one));
            add(Desks.named("beatenBy", one), desk -> desk.beatenBy(one));
            add(Desks.named("nearTo", one), desk -> desk.nearTo(one));
            add(Desks.named("layerOf", one), desk -> desk.layerOf(one));
        }
        add("allowed()", ParetoDesk::allowed);
        add("share()", ParetoDesk::share);
    }

    private static void askOfPoints() {
        add("points()", ParetoDesk::points);
        for (int point : new int[] {0, 1, 9}) {
            for (int i = 0; i <= 6; i++) {
                int what = i;
                add(Desks.named("point", point, what), desk -> desk.point(point, what));
            }
            add(Desks.named("lightest", point), desk -> desk.lightest(point));
            add(Desks.named("apart", point, 1), desk -> desk.apart(point, 1));
        }
        add("beating(1, 1)", desk -> desk.beating(1, 1));
        add("joyFor(3)", desk -> desk.joyFor(3));
        add("gainFor(3)", desk -> desk.gainFor(3));
        add("best(1, 2)", desk -> desk.best(1, 2));
        add("nearest(2, 1)", desk -> desk.nearest(2, 1));
    }

    private static void askOfTheShape() {
        add("vertices()", ParetoDesk::vertices);
        add("supported()", ParetoDesk::supported);
        add("steps()", ParetoDesk::steps);
        add("fullest()", ParetoDesk::fullest);
        add("area()", ParetoDesk::area);
        add("knee()", ParetoDesk::knee);
        add("gap()", ParetoDesk::gap);
        add("core()", ParetoDesk::core);
        add("unused()", ParetoDesk::unused);
        for (int index : new int[] {0, 1, 2}) {
            add(Desks.named("vertex", index), desk -> desk.vertex(index));
            for (int i = 0; i <= 4; i++) {
                int what = i;
                add(Desks.named("box", index, what), desk -> desk.box(index, what));
                add(Desks.named("step", index, what), desk -> desk.step(index, what));
            }
        }
    }

    private static void askOfWhatIfs() {
        for (int item : new int[] {0, 1}) {
            add(Desks.named("lostWithout", item), desk -> desk.lostWithout(item));
            add(Desks.named("worth", item), desk -> desk.worth(item));
        }
        add("pointsWith(3)", desk -> desk.pointsWith(3));
        add("capacityFor(3, 2)", desk -> desk.capacityFor(3, 2));
        add("capacityFor(41, 41)", desk -> desk.capacityFor(41, 41));
        add("layers()", ParetoDesk::layers);
        for (int layer : new int[] {0, 1, 3}) {
            add(Desks.named("layerSize", layer), desk -> desk.layerSize(layer));
        }
        add("climb(1, 1)", desk -> desk.climb(1, 1));
        add("undoCount()", ParetoDesk::undoCount);
        add("writeFrontier()", desk -> Checks.output(desk, Math.min(40, desk.writeFrontier())));
        add("writeChoices()", desk -> Checks.output(desk, Math.min(40, desk.writeChoices())));
    }

    private static void askWhatChanges() {
        add("change choose(2)", desk -> desk.choose(2) + " " + desk.property(7));
        add("change chooseBest(2, 1)", desk -> desk.chooseBest(2, 1) + " " + desk.property(7));
        add("change improve(1, 2)", desk -> desk.improve(1, 2) + " " + desk.property(7));
        add("change take(1)", desk -> desk.take(1) + " " + desk.property(7));
        add("change leave(0)", desk -> desk.leave(0) + " " + desk.property(7));
    }
}
