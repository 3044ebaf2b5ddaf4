/** Each promise by answers worked out by hand from the document. */
public final class PromisesTest {
    /**
     * With a limit of 1 each item is a choice of its own, so that the pairs are those of the items. The points are
     * 0,12! 2,11+ 4,10! 5,8. 6,7+ 7,5. 8,4! 9,0! with item 8 a lighter choice for 5,8; item 11 is too heavy.
     */
    private static final String SINGLES = "capacity 20 limit 1;"
        + "item weight 3 gain 0 joy 12;" + "item weight 4 gain 2 joy 11;" + "item weight 5 gain 4 joy 10;"
        + "item weight 6 gain 5 joy 8;" + "item weight 7 gain 6 joy 7;" + "item weight 8 gain 7 joy 5;"
        + "item weight 9 gain 8 joy 4;" + "item weight 10 gain 9 joy 0;" + "item weight 2 gain 5 joy 8;"
        + "item weight 1 gain 5 joy 7;" + "item weight 11 gain 4 joy 4;" + "item weight 25 gain 50 joy 50;";

    private static final String NOTHING_ALLOWED = "capacity 5 limit 12; item weight 1 gain 2 joy 3;"
        + "item weight 1 gain 3 joy 2; must 0; never 0;";

    private static final String RULES = "capacity 10 limit 3; item weight 1 gain 1 joy 1; item weight 2 gain 2 joy 2;"
        + "item weight 3 gain 3 joy 3; item weight 4 gain 4 joy 4; bar 0 1; need 2 3; must 3; never 0;";

    public static void main(String[] args) {
        promise1();
        promises2And3();
        promises4To6();
        promises7And8();
        promises9To11();
        promises12To16();
        promises17To21();
        promises22To25();
        promises26To28();
        promises29To33();
        promises34And35();
        promises36And37();
        promises38And39();
        promises40To42();
        promise43();
        promise44();
        promises45And46();
        promises47To49();
        promises50To53();
        promises54And55();
        promise56();
        promises57And58();
        promises59And60();
        promises61And62();
        promises63To65();
        throwingChangesNothing();
        firstCallBehindAChange();
        Checks.end("PromisesTest");
    }

    private static void promise1() {
        Checks.same("NONE", ParetoDesk.NONE, -1);
        Checks.same("PARSE_ERROR", ParetoDesk.PARSE_ERROR, -4);
        ParetoDesk desk = new ParetoDesk();
        Checks.sameText("a new desk", Checks.state(desk), "0 20 12 0 0 0 0 0 ");
        Checks.same("a new desk's undoCount", desk.undoCount(), 0);
        Checks.same("a new desk's errorCode", desk.errorCode(), 0);
        Checks.same("a new desk's errorPosition", desk.errorPosition(), -1);
        Checks.outOfBounds("a new desk's outputByte", () -> desk.outputByte(0));
        Checks.badState("a new desk's slot 0", () -> desk.restore(0));
        Checks.badState("a new desk's slot 1", () -> desk.restore(1));
        Checks.badArgument("a new desk's truncate(1)", () -> desk.truncate(1));
        Checks.same("a new desk's points", desk.points(), 1);
        Checks.sameText("a new desk's frontier", Checks.frontier(desk), "0,0!");
        Checks.same("a new desk's choices", desk.writeChoices(), 1);
        Checks.same("a new desk's choices' byte", desk.outputByte(0), '\n');
    }

    private static void promises2And3() {
        ParetoDesk desk = new ParetoDesk();
        for (int i = 1; i <= 30; i++) {
            Checks.same("append", desk.append(-1, 0, 0x20202020, 0x7F80FF00, 5), 20 * i);
        }
        Checks.badState("append to 620 bytes", () -> desk.append(0, 0, 0, 0, 0));
        desk.truncate(600);
        desk.truncate(581);
        Checks.badState("append to 601 bytes", () -> desk.append(0, 0, 0, 0, 0));
        Checks.badArgument("truncate(582)", () -> desk.truncate(582));
        Checks.badArgument("truncate(-1)", () -> desk.truncate(-1));
        desk.truncate(580);
        Checks.same("append to 600 bytes", desk.append(0, 0, 0, 0, 0), 600);
        desk.truncate(0);
        Checks.badArgument("truncate(1) of an empty buffer", () -> desk.truncate(1));
        Checks.same("append behind truncate(0)", desk.append(0, 0, 0, 0, 0), 20);
        desk.load();
        Checks.same("append behind load()", desk.append(0x63617061, 0x63697479, 0x2031206C, 0x696D6974, 0x20323B20), 20);
        Checks.same("load() of what append() put", desk.load(), 0);
        Checks.same("its capacity", desk.property(1), 1);
        Checks.same("its limit", desk.property(2), 2);
    }

    private static void promises4To6() {
        ParetoDesk desk = new ParetoDesk();
        desk.addItem(1, 2, 3);
        desk.choose(1);
        Checks.same("load", Checks.load(desk, RULES), 4);
        Checks.sameText("what was loaded", Checks.state(desk),
            "4 10 3 1 1 8 1 0 |1 1 1 2 0 |2 2 2 1 0 |3 3 3 0 8 |4 4 4 0 0 ");
        Checks.same("errorCode behind load", desk.errorCode(), 0);
        Checks.same("errorPosition behind load", desk.errorPosition(), -1);
        Checks.same("undoCount behind load", desk.undoCount(), 3);
        Checks.badArgument("the buffer behind load", () -> desk.truncate(1));
        Checks.same("load with an error", Checks.load(desk, "capacity 5 limit 13;"), -4);
        Checks.same("errorCode", desk.errorCode(), 2);
        Checks.same("errorPosition", desk.errorPosition(), 17);
        Checks.badArgument("the buffer behind an error", () -> desk.truncate(1));
        Checks.same("the capacity behind an error", desk.property(1), 10);
        Checks.same("undoCount behind an error", desk.undoCount(), 3);
        Checks.same("load of nothing", desk.load(), -4);
        Checks.same("errorCode of nothing", desk.errorCode(), 1);
        Checks.same("errorPosition of nothing", desk.errorPosition(), 0);
        desk.undo();
        Checks.same("errorCode behind undo", desk.errorCode(), 1);
        Checks.sameText("what was there ahead of load", Checks.state(desk), "1 20 12 0 0 0 0 1 |1 2 3 0 0 ");
        Checks.same("load again", Checks.load(desk, "capacity 0 limit 0;"), 0);
        Checks.same("errorCode again", desk.errorCode(), 0);
        Checks.same("errorPosition again", desk.errorPosition(), -1);
    }

    private static void promises7And8() {
        ParetoDesk desk = Checks.deskOf(RULES);
        desk.need(3, 2, true);
        desk.bar(1, 2, true);
        desk.never(1, true);
        desk.choose(12);
        int[] due = {4, 10, 3, 2, 2, 8, 3, 12};
        for (int what = 0; what < due.length; what++) {
            Checks.same("property(" + what + ")", desk.property(what), due[what]);
        }
        Checks.badArgument("property(8)", () -> desk.property(8));
        Checks.badArgument("property(-1)", () -> desk.property(-1));
        int[] third = {3, 3, 3, 2, 8};
        for (int what = 0; what < third.length; what++) {
            Checks.same("item(2, " + what + ")", desk.item(2, what), third[what]);
        }
        desk.setItem(1, 1, 50);
        desk.setItem(1, 2, 60);
        Checks.same("item(1, 0)", desk.item(1, 0), 2);
        Checks.same("item(1, 1)", desk.item(1, 1), 50);
        Checks.same("item(1, 2)", desk.item(1, 2), 60);
        Checks.same("item(1, 3)", desk.item(1, 3), 5);
        Checks.same("item(3, 4)", desk.item(3, 4), 4);
        Checks.badArgument("item(0, 5)", () -> desk.item(0, 5));
        Checks.badArgument("item(3, -1)", () -> desk.item(3, -1));
        Checks.outOfBounds("item(4, 5)", () -> desk.item(4, 5));
        Checks.outOfBounds("item(-1, 0)", () -> desk.item(-1, 0));
    }

    private static void promises9To11() {
        ParetoDesk desk = Checks.deskOf("capacity 10 limit 3; item weight 1 gain 1 joy 9; item weight 2 gain 2 joy 8;"
            + "item weight 3 gain 3 joy 7; item weight 4 gain 4 joy 6; item weight 6 gain 0 joy 0;"
            + "bar 0 1; need 2 3; must 3; never 0;");
        Checks.same("refused by weight", desk.refusal(31), 1);
        Checks.same("of the capacity's weight", desk.refusal(16 + 8), 0);
        Checks.same("refused by weight alone", desk.refusal(16 + 8 + 1), 1);
        Checks.same("refused by the limit", desk.refusal(15), 2);
        Checks.same("refused by bar", desk.refusal(1 + 2), 3);
        Checks.same("refused by bar ahead of need", desk.refusal(1 + 2 + 4), 3);
        Checks.same("refused by need", desk.refusal(4), 4);
        Checks.same("refused by need ahead of never", desk.refusal(4 + 1), 4);
        Checks.same("refused by must", desk.refusal(0), 5);
        Checks.same("refused by must ahead of never", desk.refusal(1), 5);
        Checks.same("refused by never", desk.refusal(8 + 1), 6);
        Checks.same("allowed with what it needs", desk.refusal(8 + 4 + 2), 0);
        Checks.badArgument("refusal(32)", () -> desk.refusal(32));
        Checks.badArgument("refusal(-1)", () -> desk.refusal(-1));
        Checks.badArgument("refusal(least int)", () -> desk.refusal(Integer.MIN_VALUE));
        Checks.same("sum(31, 0)", desk.sum(31, 0), 16);
        Checks.same("sum(31, 1)", desk.sum(31, 1), 10);
        Checks.same("sum(31, 2)", desk.sum(31, 2), 30);
        Checks.same("sum(0, 2)", desk.sum(0, 2), 0);
        Checks.same("sum(5, 1)", desk.sum(5, 1), 4);
        Checks.badArgument("sum(32, 0)", () -> desk.sum(32, 0));
        Checks.badArgument("sum(-1, 0)", () -> desk.sum(-1, 0));
        Checks.badArgument("sum(0, 3)", () -> desk.sum(0, 3));
        Checks.badArgument("sum(0, -1)", () -> desk.sum(0, -1));
        // With item 3: alone, with 1, with 2, with both, and with 4.
        Checks.same("allowed()", desk.allowed(), 5);
        Checks.same("allowed() of none", Checks.deskOf(NOTHING_ALLOWED).allowed(), 0);
        Checks.same("allowed() of single ones", Checks.deskOf(SINGLES).allowed(), 12);
    }

    private static void promises12To16() {
        ParetoDesk desk = Checks.deskOf(SINGLES);
        Checks.same("points()", desk.points(), 8);
        int[][] due = {
            {0, 12, 1, 1, 3, 1, 1}, {2, 11, 2, 1, 4, 1, 0}, {4, 10, 4, 1, 5, 1, 1}, {5, 8, 8, 2, 6, 0, 0},
            {6, 7, 16, 1, 7, 1, 0}, {7, 5, 32, 1, 8, 0, 0}, {8, 4, 64, 1, 9, 1, 1}, {9, 0, 128, 1, 10, 1, 1}};
        for (int point = 0; point < 8; point++) {
            for (int what = 0; what <= 6; what++) {
                Checks.same("point(" + point + ", " + what + ")", desk.point(point, what), due[point][what]);
            }
            Checks.same("lightest(" + point + ")", desk.lightest(point), point == 3 ? 256 : 1 << point);
        }
        Checks.outOfBounds("point(8, 7)", () -> desk.point(8, 7));
        Checks.outOfBounds("point(-1, 0)", () -> desk.point(-1, 0));
        Checks.badArgument("point(7, 7)", () -> desk.point(7, 7));
        Checks.badArgument("point(0, -1)", () -> desk.point(0, -1));
        Checks.outOfBounds("lightest(8)", () -> desk.lightest(8));
        Checks.outOfBounds("lightest(-1)", () -> desk.lightest(-1));
        Checks.same("pointOf(256)", desk.pointOf(256), 3);
        Checks.same("pointOf(128)", desk.pointOf(128), 7);
        Checks.same("pointOf(512)", desk.pointOf(512), -1);
        Checks.same("pointOf(2048)", desk.pointOf(2048), -1);
        Checks.badArgument("pointOf(4096)", () -> desk.pointOf(4096));
        Checks.badArgument("pointOf(-1)", () -> desk.pointOf(-1));
        Checks.same("beatenBy(512)", desk.beatenBy(512), 3);
        Checks.same("beatenBy(1024)", desk.beatenBy(1024), 2);
        Checks.same("beatenBy(0)", desk.beatenBy(0), 0);
        Checks.same("beatenBy(256)", desk.beatenBy(256), -1);
        Checks.same("beatenBy(2048)", desk.beatenBy(2048), -1);
        Checks.badArgument("beatenBy(4096)", () -> desk.beatenBy(4096));
        Checks.badArgument("beatenBy(-5)", () -> desk.beatenBy(-5));
        // A refused choice may have the pair of a point, and equally light ones go by the mask.
        ParetoDesk twins = Checks.deskOf("capacity 2 limit 12; item weight 3 gain 1 joy 1; item weight 2 gain 1 joy 1;"
            + "item weight 1 gain 1 joy 1; item weight 1 gain 1 joy 1; bar 2 3;");
        Checks.same("the twins' points", twins.points(), 1);
        Checks.same("the twins' choice", twins.point(0, 2), 2);
        Checks.same("the twins' number", twins.point(0, 3), 3);
        Checks.same("the twins' lightest", twins.lightest(0), 4);
        Checks.same("pointOf a refused twin", twins.pointOf(1), 0);
        Checks.same("pointOf a refused pair", twins.pointOf(3), -1);
        Checks.same("beatenBy a refused pair", twins.beatenBy(3), -1);
        ParetoDesk none = Checks.deskOf(NOTHING_ALLOWED);
        Checks.same("no points", none.points(), 0);
        Checks.same("pointOf without points", none.pointOf(1), -1);
        Checks.same("beatenBy without points", none.beatenBy(0), -1);
        Checks.outOfBounds("point without points", () -> none.point(0, 9));
        Checks.outOfBounds("lightest without points", () -> none.lightest(0));
    }

    private static void promises17To21() {
        ParetoDesk desk = Checks.deskOf(SINGLES);
        Checks.same("beating(5, 7)", desk.beating(5, 7), 2);
        Checks.same("beating(5, 8)", desk.beating(5, 8), 0);
        Checks.same("beating(4, 9)", desk.beating(4, 9), 1);
        Checks.same("beating(least, least)", desk.beating(Integer.MIN_VALUE, Integer.MIN_VALUE), 8);
        Checks.same("beating(greatest, least)", desk.beating(Integer.MAX_VALUE, Integer.MIN_VALUE), 0);
        Checks.same("joyFor(5)", desk.joyFor(5), 8);
        Checks.same("joyFor(3)", desk.joyFor(3), 10);
        Checks.same("joyFor(9)", desk.joyFor(9), 0);
        Checks.same("joyFor(10)", desk.joyFor(10), -1);
        Checks.same("joyFor(least)", desk.joyFor(Integer.MIN_VALUE), 12);
        Checks.same("gainFor(0)", desk.gainFor(0), 9);
        Checks.same("gainFor(1)", desk.gainFor(1), 8);
        Checks.same("gainFor(9)", desk.gainFor(9), 4);
        Checks.same("gainFor(12)", desk.gainFor(12), 0);
        Checks.same("gainFor(13)", desk.gainFor(13), -1);
        Checks.same("gainFor(least)", desk.gainFor(Integer.MIN_VALUE), 9);
        Checks.same("best(1, 1)", desk.best(1, 1), 2);
        Checks.same("best(3, 2), of three", desk.best(3, 2), 2);
        Checks.same("best(2, 1)", desk.best(2, 1), 6);
        Checks.same("best(99, 0)", desk.best(99, 0), 7);
        Checks.same("best(0, 99)", desk.best(0, 99), 0);
        Checks.same("nearest(1, 1)", desk.nearest(1, 1), 3);
        Checks.same("nearest(2, 1)", desk.nearest(2, 1), 4);
        Checks.same("nearest(1, 0)", desk.nearest(1, 0), 7);
        Checks.same("nearest(0, 1)", desk.nearest(0, 1), 0);
        ParetoDesk two = Checks.deskOf("capacity 9 limit 1; item weight 1 gain 3 joy 0; item weight 1 gain 0 joy 3;");
        Checks.same("nearest of two that lack the same", two.nearest(1, 1), 0);
        ParetoDesk none = Checks.deskOf(NOTHING_ALLOWED);
        Checks.same("beating without points", none.beating(-1, -1), 0);
        Checks.same("joyFor without points", none.joyFor(-1), -1);
        Checks.same("gainFor without points", none.gainFor(-1), -1);
        Checks.same("best without points", none.best(1, 1), -1);
        Checks.same("nearest without points", none.nearest(1, 1), -1);
        int[][] wrong = {{0, 0}, {-1, 1}, {1, -1}, {100, 1}, {1, 100}, {100, 0}};
        for (int[] w : wrong) {
            String told = "(" + w[0] + ", " + w[1] + ")";
            Checks.badArgument("best" + told, () -> desk.best(w[0], w[1]));
            Checks.badArgument("nearest" + told, () -> desk.nearest(w[0], w[1]));
            Checks.badArgument("climb" + told, () -> desk.climb(w[0], w[1]));
            Checks.badArgument("chooseBest" + told, () -> none.chooseBest(w[0], w[1]));
            Checks.badArgument("improve" + told, () -> desk.improve(w[0], w[1]));
        }
    }

    private static void promises22To25() {
        ParetoDesk desk = Checks.deskOf(SINGLES);
        Checks.same("vertices()", desk.vertices(), 4);
        int[] due = {0, 2, 6, 7};
        for (int i = 0; i < due.length; i++) {
            Checks.same("vertex(" + i + ")", desk.vertex(i), due[i]);
        }
        Checks.outOfBounds("vertex(4)", () -> desk.vertex(4));
        Checks.outOfBounds("vertex(-1)", () -> desk.vertex(-1));
        Checks.same("supported()", desk.supported(), 6);
        int[][] boxes = {{0, 2, 1, 1, 2}, {2, 6, 3, 1, 7}, {6, 7, 0, 0, -1}};
        for (int box = 0; box < boxes.length; box++) {
            for (int what = 0; what <= 4; what++) {
                Checks.same("box(" + box + ", " + what + ")", desk.box(box, what), boxes[box][what]);
            }
        }
        Checks.outOfBounds("box(3, 5)", () -> desk.box(3, 5));
        Checks.outOfBounds("box(-1, 0)", () -> desk.box(-1, 0));
        Checks.badArgument("box(2, 5)", () -> desk.box(2, 5));
        Checks.badArgument("box(0, -1)", () -> desk.box(0, -1));
        ParetoDesk one = new ParetoDesk();
        Checks.same("vertices of one point", one.vertices(), 1);
        Checks.same("supported of one point", one.supported(), 1);
        Checks.outOfBounds("box of one point", () -> one.box(0, 0));
        ParetoDesk two = Checks.deskOf("capacity 9 limit 1; item weight 1 gain 3 joy 0; item weight 1 gain 0 joy 3;");
        Checks.sameText("two points", Checks.frontier(two), "0,3! 3,0!");
        Checks.same("box of two points", two.box(0, 1), 1);
        ParetoDesk none = Checks.deskOf(NOTHING_ALLOWED);
        Checks.same("no vertices", none.vertices(), 0);
        Checks.same("none supported", none.supported(), 0);
        Checks.outOfBounds("vertex without points", () -> none.vertex(0));
        Checks.outOfBounds("box without points", () -> none.box(0, 0));
    }

    private static void promises26To28() {
        ParetoDesk desk = Checks.deskOf(SINGLES);
        Checks.same("steps()", desk.steps(), 5);
        int[][] due = {{0, 7, 12, 9, 2}, {0, 2, 2, 4, -1}, {2, 7, 10, 5, 6}, {2, 6, 6, 4, -1}, {6, 7, 4, 1, -1}};
        for (int step = 0; step < due.length; step++) {
            for (int what = 0; what <= 4; what++) {
                Checks.same("step(" + step + ", " + what + ")", desk.step(step, what), due[step][what]);
            }
        }
        Checks.badArgument("step(5, 5)", () -> desk.step(5, 5));
        Checks.badArgument("step(0, -1)", () -> desk.step(0, -1));
        Checks.throwing("step(5, 0)", java.util.NoSuchElementException.class, () -> desk.step(5, 0));
        Checks.throwing("step(-1, 0)", java.util.NoSuchElementException.class, () -> desk.step(-1, 0));
        Checks.same("fullest()", desk.fullest(), 1);
        ParetoDesk even = Checks.deskOf("capacity 9 limit 1; item weight 1 gain 0 joy 6; item weight 1 gain 2 joy 5;"
            + "item weight 1 gain 4 joy 4; item weight 1 gain 5 joy 2; item weight 1 gain 6 joy 0;");
        Checks.sameText("two like boxes", Checks.frontier(even), "0,6! 2,5+ 4,4! 5,2+ 6,0!");
        Checks.same("fullest() of two", even.fullest(), 0);
        ParetoDesk one = new ParetoDesk();
        Checks.same("steps() of one point", one.steps(), 0);
        Checks.same("fullest() of one point", one.fullest(), -1);
        Checks.throwing("step(0, 0) of one", java.util.NoSuchElementException.class, () -> one.step(0, 0));
        ParetoDesk two = Checks.deskOf("capacity 9 limit 1; item weight 1 gain 3 joy 0; item weight 1 gain 0 joy 3;");
        Checks.same("steps() of two points", two.steps(), 1);
        Checks.same("fullest() of two points", two.fullest(), 0);
        ParetoDesk none = Checks.deskOf(NOTHING_ALLOWED);
        Checks.same("steps() without points", none.steps(), 0);
        Checks.same("fullest() without points", none.fullest(), -1);
    }

    private static void promises29To33() {
        ParetoDesk desk = Checks.deskOf(SINGLES);
        Checks.same("area()", desk.area(), 66);
        Checks.same("knee()", desk.knee(), 2);
        Checks.same("gap()", desk.gap(), 6);
        Checks.same("core()", desk.core(), 0);
        Checks.same("unused()", desk.unused(), 256 + 512 + 1024 + 2048);
        ParetoDesk hollow = Checks.deskOf("capacity 9 limit 1; item weight 1 gain 2 joy 9; item weight 1 gain 4 joy 4;"
            + "item weight 1 gain 9 joy 2;");
        Checks.sameText("a hollow frontier", Checks.frontier(hollow), "2,9! 4,4. 9,2!");
        Checks.same("area() of it", hollow.area(), 2 * 9 + 2 * 4 + 5 * 2);
        Checks.same("knee() of it", hollow.knee(), -1);
        Checks.same("gap() of it, of two", hollow.gap(), 0);
        ParetoDesk line = Checks.deskOf("capacity 9 limit 1; item weight 1 gain 0 joy 4; item weight 1 gain 2 joy 2;"
            + "item weight 1 gain 4 joy 0;");
        Checks.same("knee() of a line", line.knee(), -1);
        ParetoDesk common = Checks.deskOf("capacity 9 limit 2; item weight 1 gain 5 joy 0; item weight 1 gain 9 joy 9;"
            + "item weight 1 gain 0 joy 5; item weight 9 gain 1 joy 1;");
        Checks.same("core() of two points", common.core(), 2);
        Checks.same("unused() of two points", common.unused(), 8);
        ParetoDesk one = new ParetoDesk();
        one.addItem(1, 3, 4);
        Checks.same("area() of one point", one.area(), 12);
        Checks.same("knee() of one point", one.knee(), -1);
        Checks.same("gap() of one point", one.gap(), -1);
        Checks.same("core() of one point", one.core(), 1);
        Checks.same("unused() of one point", one.unused(), 0);
        ParetoDesk none = Checks.deskOf(NOTHING_ALLOWED);
        Checks.same("area() without points", none.area(), 0);
        Checks.same("knee() without points", none.knee(), -1);
        Checks.same("gap() without points", none.gap(), -1);
        Checks.same("core() without points", none.core(), 0);
        Checks.same("unused() without points", none.unused(), 3);
    }

    private static void promises34And35() {
        ParetoDesk desk = Checks.deskOf(SINGLES);
        int[] lost = {1, 1, 1, 0, 1, 1, 1, 1, 0, 0, 0, 0};
        int[] worth = {0, 2, 4, 0, 2, 1, 4, 0, 0, 0, 0, 0};
        for (int item = 0; item < 12; item++) {
            Checks.same("lostWithout(" + item + ")", desk.lostWithout(item), lost[item]);
            Checks.same("worth(" + item + ")", desk.worth(item), worth[item]);
        }
        Checks.outOfBounds("lostWithout(12)", () -> desk.lostWithout(12));
        Checks.outOfBounds("lostWithout(-1)", () -> desk.lostWithout(-1));
        Checks.outOfBounds("worth(12)", () -> desk.worth(12));
        Checks.outOfBounds("worth(-1)", () -> desk.worth(-1));
        ParetoDesk wanted = Checks.deskOf("capacity 9 limit 9; item weight 1 gain 2 joy 3; item weight 1 gain 1 joy 1;"
            + "must 0;");
        Checks.same("worth of a must", wanted.worth(0), -1);
        Checks.same("worth beside a must", wanted.worth(1), 12 - 6);
        Checks.same("lostWithout a must", wanted.lostWithout(0), 1);
        ParetoDesk none = Checks.deskOf(NOTHING_ALLOWED);
        Checks.same("worth where none is allowed", none.worth(0), 0);
        Checks.same("lostWithout where none is allowed", none.lostWithout(0), 0);
    }

    private static void promises36And37() {
        ParetoDesk desk = Checks.deskOf(SINGLES);
        Checks.same("pointsWith(0)", desk.pointsWith(0), 1);
        Checks.same("pointsWith(5)", desk.pointsWith(5), 4);
        Checks.same("pointsWith(20)", desk.pointsWith(20), 8);
        Checks.same("pointsWith(24)", desk.pointsWith(24), 8);
        Checks.same("pointsWith(25)", desk.pointsWith(25), 1);
        Checks.same("pointsWith(999)", desk.pointsWith(999), 1);
        Checks.same("points() behind pointsWith", desk.points(), 8);
        Checks.badArgument("pointsWith(1000)", () -> desk.pointsWith(1000));
        Checks.badArgument("pointsWith(-1)", () -> desk.pointsWith(-1));
        Checks.same("capacityFor(5, 8)", desk.capacityFor(5, 8), 2);
        Checks.same("capacityFor(5, 7)", desk.capacityFor(5, 7), 1);
        Checks.same("capacityFor(9, 0)", desk.capacityFor(9, 0), 10);
        Checks.same("capacityFor(10, 0)", desk.capacityFor(10, 0), 25);
        Checks.same("capacityFor(51, 0)", desk.capacityFor(51, 0), -1);
        Checks.same("capacityFor(0, 51)", desk.capacityFor(0, 51), -1);
        Checks.same("capacityFor(least, least)", desk.capacityFor(Integer.MIN_VALUE, Integer.MIN_VALUE), 0);
        Checks.same("capacityFor(greatest, 0)", desk.capacityFor(Integer.MAX_VALUE, 0), -1);
        ParetoDesk none = Checks.deskOf(NOTHING_ALLOWED);
        Checks.same("pointsWith where none is allowed", none.pointsWith(999), 0);
        Checks.same("capacityFor where none is allowed", none.capacityFor(0, 0), -1);
        ParetoDesk heavy = new ParetoDesk();
        for (int i = 0; i < 11; i++) {
            heavy.addItem(i == 10 ? 9 : 99, 1, 1);
        }
        Checks.same("a capacity of 999", heavy.capacityFor(11, 11), 999);
        heavy.addItem(0, 1, 1);
        Checks.same("a capacity of 999 again", heavy.capacityFor(12, 12), 999);
        heavy.setItem(11, 0, 1);
        Checks.same("a capacity of 1000", heavy.capacityFor(12, 12), -1);
        heavy.setCapacity(999);
        Checks.same("the heavy one's refusal", heavy.refusal(4095), 1);
        heavy.setItem(11, 0, 0);
        Checks.same("the heavy one's refusal then", heavy.refusal(4095), 0);
    }

    private static void promises38And39() {
        ParetoDesk desk = Checks.deskOf(SINGLES);
        Checks.same("nearTo(0)", desk.nearTo(0), 0);
        Checks.same("nearTo(8)", desk.nearTo(8), 3);
        Checks.same("nearTo(24)", desk.nearTo(24), 3);
        Checks.same("nearTo(128)", desk.nearTo(128), 7);
        Checks.same("nearTo(256)", desk.nearTo(256), 0);
        Checks.same("nearTo(4095 - 1)", desk.nearTo(4094), 1);
        Checks.badArgument("nearTo(4096)", () -> desk.nearTo(4096));
        Checks.badArgument("nearTo(-1)", () -> desk.nearTo(-1));
        Checks.same("nearTo without points", Checks.deskOf(NOTHING_ALLOWED).nearTo(3), -1);
        Checks.same("apart(0, 0)", desk.apart(0, 0), 0);
        Checks.same("apart(0, 7)", desk.apart(0, 7), 2);
        Checks.outOfBounds("apart(0, 8)", () -> desk.apart(0, 8));
        Checks.outOfBounds("apart(8, 0)", () -> desk.apart(8, 0));
        Checks.outOfBounds("apart(-1, 0)", () -> desk.apart(-1, 0));
        Checks.outOfBounds("apart(0, -1)", () -> desk.apart(0, -1));
        ParetoDesk free = Checks.deskOf("capacity 2 limit 2; item weight 1 gain 9 joy 0; item weight 1 gain 0 joy 9;"
            + "item weight 1 gain 8 joy 0; item weight 1 gain 0 joy 8;");
        Checks.sameText("a free frontier", Checks.frontier(free), "0,17! 9,9! 17,0!");
        Checks.same("apart of distinct pairs", free.apart(0, 2), 4);
        Checks.same("apart of near pairs", free.apart(1, 2), 2);
    }

    private static void promises40To42() {
        ParetoDesk desk = Checks.deskOf(SINGLES);
        Checks.same("layers()", desk.layers(), 4);
        int[] sizes = {8, 1, 1, 1};
        for (int layer = 0; layer < sizes.length; layer++) {
            Checks.same("layerSize(" + layer + ")", desk.layerSize(layer), sizes[layer]);
        }
        Checks.outOfBounds("layerSize(4)", () -> desk.layerSize(4));
        Checks.outOfBounds("layerSize(-1)", () -> desk.layerSize(-1));
        Checks.same("layerOf(8)", desk.layerOf(8), 0);
        Checks.same("layerOf(256)", desk.layerOf(256), 0);
        Checks.same("layerOf(512)", desk.layerOf(512), 1);
        Checks.same("layerOf(1024)", desk.layerOf(1024), 2);
        Checks.same("layerOf(0)", desk.layerOf(0), 3);
        Checks.same("layerOf(2048)", desk.layerOf(2048), -1);
        Checks.same("layerOf(3)", desk.layerOf(3), -1);
        Checks.badArgument("layerOf(4096)", () -> desk.layerOf(4096));
        Checks.badArgument("layerOf(-1)", () -> desk.layerOf(-1));
        ParetoDesk none = Checks.deskOf(NOTHING_ALLOWED);
        Checks.same("no layers", none.layers(), 0);
        Checks.outOfBounds("layerSize without layers", () -> none.layerSize(0));
        ParetoDesk chain = new ParetoDesk();
        chain.setCapacity(999);
        for (int i = 0; i < 12; i++) {
            chain.addItem(0, 1, 1);
        }
        Checks.same("a chain's layers", chain.layers(), 13);
        Checks.same("a chain's last layer", chain.layerSize(12), 1);
        Checks.same("a chain's layerOf", chain.layerOf(5), 10);
    }

    private static void promise43() {
        ParetoDesk desk = Checks.deskOf(SINGLES);
        Checks.same("climb(1, 1)", desk.climb(1, 1), 4);
        Checks.same("climb(1, 0)", desk.climb(1, 0), 128);
        Checks.same("climb(0, 1)", desk.climb(0, 1), 1);
        Checks.same("climb(3, 2), of three", desk.climb(3, 2), 4);
        Checks.same("the choice at hand behind climb", desk.property(7), 0);
        // No choice near the empty one is allowed, though far ones are.
        ParetoDesk far = Checks.deskOf("capacity 9 limit 9; item weight 1 gain 1 joy 1; item weight 1 gain 2 joy 2;"
            + "must 0; must 1;");
        Checks.same("climb without a way", far.climb(1, 1), 0);
        // The choice at hand is refused: climbing leaves it only for a greater value.
        ParetoDesk refused = Checks.deskOf("capacity 9 limit 9; item weight 1 gain 5 joy 5; item weight 1 gain 6 joy 5;");
        refused.take(0);
        refused.never(0, true);
        Checks.same("climb from a refused choice", refused.climb(1, 1), 2);
        Checks.same("climb from a refused choice of the same value", refused.climb(0, 1), 1);
        // Only one item more and another one less helps here, and of two like it the least mask.
        ParetoDesk swap = Checks.deskOf("capacity 9 limit 1; item weight 1 gain 1 joy 1; item weight 1 gain 3 joy 2;"
            + "item weight 1 gain 2 joy 3;");
        swap.take(0);
        Checks.same("climb by a swap", swap.climb(1, 1), 2);
        ParetoDesk fewer = Checks.deskOf("capacity 9 limit 9; item weight 1 gain 1 joy 0; item weight 1 gain 0 joy 1;");
        fewer.choose(3);
        Checks.same("climb where none is better", fewer.climb(1, 1), 3);
        Checks.same("climb of no items", new ParetoDesk().climb(99, 99), 0);
    }

    private static void promise44() {
        Checks.sameDouble("share()", Checks.deskOf(SINGLES).share(), 8.0 / 12.0);
        Checks.sameDouble("share() of none", Checks.deskOf(NOTHING_ALLOWED).share(), 0.0);
        Checks.sameDouble("share() of one", new ParetoDesk().share(), 1.0);
    }

    private static void promises45And46() {
        ParetoDesk desk = new ParetoDesk();
        for (int i = 0; i < 12; i++) {
            Checks.same("addItem", desk.addItem(i, 99 - i, 0), i);
        }
        Checks.badState("a 13th item", () -> desk.addItem(0, 0, 0));
        Checks.badArgument("a 13th item out of range", () -> desk.addItem(0, 0, 100));
        Checks.badArgument("addItem(100, 0, 0)", () -> desk.addItem(100, 0, 0));
        Checks.badArgument("addItem(0, 100, 0)", () -> desk.addItem(0, 100, 0));
        Checks.badArgument("addItem(-1, 0, 0)", () -> desk.addItem(-1, 0, 0));
        Checks.badArgument("addItem(0, -1, 0)", () -> desk.addItem(0, -1, 0));
        Checks.badArgument("addItem(0, 0, -1)", () -> desk.addItem(0, 0, -1));
        Checks.same("item(11, 0)", desk.item(11, 0), 11);
        Checks.same("item(11, 1)", desk.item(11, 1), 88);
        ParetoDesk rules = Checks.deskOf("capacity 9 limit 9; item weight 1 gain 1 joy 1; item weight 2 gain 2 joy 2;"
            + "item weight 3 gain 3 joy 3; item weight 4 gain 4 joy 4; bar 0 3; bar 1 2; need 3 2; need 2 1; must 2;"
            + "never 1; never 3;");
        rules.undo();
        Checks.load(rules, "capacity 9 limit 9; item weight 1 gain 1 joy 1; item weight 2 gain 2 joy 2;"
            + "item weight 3 gain 3 joy 3; item weight 4 gain 4 joy 4;");
        rules.choose(14);
        rules.bar(0, 3, true);
        rules.bar(1, 2, true);
        rules.need(3, 2, true);
        rules.need(2, 1, true);
        rules.must(2, true);
        rules.never(1, true);
        rules.never(3, true);
        Checks.same("dropItem(1)", rules.dropItem(1), 3);
        Checks.sameText("behind dropItem(1)", Checks.state(rules), "3 9 9 1 1 2 4 6 |1 1 1 4 0 |3 3 3 0 0 |4 4 4 1 2 ");
        rules.undo();
        Checks.sameText("undone", Checks.state(rules),
            "4 9 9 2 2 4 10 14 |1 1 1 8 0 |2 2 2 4 0 |3 3 3 2 2 |4 4 4 1 4 ");
        Checks.same("dropItem(3)", rules.dropItem(3), 3);
        Checks.same("a new item's number", rules.addItem(9, 9, 9), 3);
        Checks.sameText("a new item has no rules", Checks.state(rules),
            "4 9 9 1 1 4 2 6 |1 1 1 0 0 |2 2 2 4 0 |3 3 3 2 2 |9 9 9 0 0 ");
        Checks.outOfBounds("dropItem(4)", () -> rules.dropItem(4));
        Checks.outOfBounds("dropItem(-1)", () -> rules.dropItem(-1));
        Checks.same("dropItem(0)", rules.dropItem(0), 3);
        Checks.same("dropItem(0)", rules.dropItem(0), 2);
        Checks.same("dropItem(0)", rules.dropItem(0), 1);
        Checks.same("dropItem(0)", rules.dropItem(0), 0);
        Checks.outOfBounds("dropItem(0) of none", () -> rules.dropItem(0));
    }

    private static void promises47To49() {
        ParetoDesk desk = Checks.deskOf("capacity 9 limit 8; item weight 1 gain 2 joy 3; item weight 4 gain 5 joy 6;");
        Checks.same("setItem(0, 0, 99)", desk.setItem(0, 0, 99), 1);
        Checks.same("setItem(1, 1, 0)", desk.setItem(1, 1, 0), 5);
        Checks.same("setItem(1, 2, 7)", desk.setItem(1, 2, 7), 6);
        Checks.same("setItem(1, 2, 7) again", desk.setItem(1, 2, 7), 7);
        Checks.sameText("behind setItem", Checks.state(desk), "2 9 8 0 0 0 0 0 |99 2 3 0 0 |4 0 7 0 0 ");
        Checks.outOfBounds("setItem(2, 3, 100)", () -> desk.setItem(2, 3, 100));
        Checks.outOfBounds("setItem(-1, 0, 0)", () -> desk.setItem(-1, 0, 0));
        Checks.badArgument("setItem(0, 3, 0)", () -> desk.setItem(0, 3, 0));
        Checks.badArgument("setItem(0, -1, 0)", () -> desk.setItem(0, -1, 0));
        Checks.badArgument("setItem(0, 0, 100)", () -> desk.setItem(0, 0, 100));
        Checks.badArgument("setItem(0, 0, -1)", () -> desk.setItem(0, 0, -1));
        Checks.same("points with setItem", desk.points(), 1);
        Checks.same("setCapacity(999)", desk.setCapacity(999), 9);
        Checks.sameText("points with a capacity", Checks.frontier(desk), "2,10!");
        Checks.same("setCapacity(0)", desk.setCapacity(0), 999);
        Checks.sameText("points without a capacity", Checks.frontier(desk), "0,0!");
        Checks.badArgument("setCapacity(1000)", () -> desk.setCapacity(1000));
        Checks.badArgument("setCapacity(-1)", () -> desk.setCapacity(-1));
        desk.setCapacity(999);
        Checks.same("setLimit(12)", desk.setLimit(12), 8);
        Checks.same("setLimit(1)", desk.setLimit(1), 12);
        Checks.sameText("points with a limit of 1", Checks.frontier(desk), "0,7! 2,3!");
        Checks.same("setLimit(0)", desk.setLimit(0), 1);
        Checks.sameText("points with a limit of 0", Checks.frontier(desk), "0,0!");
        Checks.badArgument("setLimit(13)", () -> desk.setLimit(13));
        Checks.badArgument("setLimit(-1)", () -> desk.setLimit(-1));
        Checks.same("the limit then", desk.property(2), 0);
    }

    private static void promises50To53() {
        ParetoDesk desk = Checks.deskOf("capacity 9 limit 9; item weight 1 gain 1 joy 2; item weight 1 gain 2 joy 1;"
            + "item weight 1 gain 0 joy 0;");
        Checks.same("bar(0, 1, true)", desk.bar(0, 1, true), false);
        Checks.same("bar(1, 0, true)", desk.bar(1, 0, true), true);
        Checks.sameText("points of barred items", Checks.frontier(desk), "1,2! 2,1!");
        Checks.same("bar(1, 0, false)", desk.bar(1, 0, false), true);
        Checks.same("bar(0, 1, false)", desk.bar(0, 1, false), false);
        Checks.same("bar(0, 2, false)", desk.bar(0, 2, false), false);
        Checks.same("property(3)", desk.property(3), 0);
        Checks.sameText("points of free items", Checks.frontier(desk), "3,3!");
        Checks.same("need(0, 2, true)", desk.need(0, 2, true), false);
        Checks.same("need(2, 0, true)", desk.need(2, 0, true), false);
        Checks.same("need(0, 2, true) again", desk.need(0, 2, true), true);
        Checks.same("property(4)", desk.property(4), 2);
        Checks.same("refusal of what needs", desk.refusal(1), 4);
        Checks.same("refusal of both", desk.refusal(5), 0);
        Checks.same("need(0, 2, false)", desk.need(0, 2, false), true);
        Checks.same("need(0, 2, false) again", desk.need(0, 2, false), false);
        Checks.same("item(2, 4)", desk.item(2, 4), 1);
        Checks.same("must(1, true)", desk.must(1, true), false);
        Checks.same("must(1, true) again", desk.must(1, true), true);
        Checks.same("never(1, true)", desk.never(1, true), false);
        Checks.same("never(1, true) again", desk.never(1, true), true);
        Checks.same("allowed() of must and never", desk.allowed(), 0);
        Checks.same("must(1, false)", desk.must(1, false), true);
        Checks.same("must(1, false) again", desk.must(1, false), false);
        Checks.same("never(1, false)", desk.never(1, false), true);
        Checks.same("never(1, false) again", desk.never(1, false), false);
        Checks.same("must(0, false) of no must", desk.must(0, false), false);
        Checks.outOfBounds("bar(3, 3, true)", () -> desk.bar(3, 3, true));
        Checks.outOfBounds("bar(0, -1, true)", () -> desk.bar(0, -1, true));
        Checks.outOfBounds("bar(-1, 0, true)", () -> desk.bar(-1, 0, true));
        Checks.badArgument("bar(2, 2, true)", () -> desk.bar(2, 2, true));
        Checks.outOfBounds("need(3, 3, true)", () -> desk.need(3, 3, true));
        Checks.outOfBounds("need(0, 3, true)", () -> desk.need(0, 3, true));
        Checks.outOfBounds("need(-1, 0, true)", () -> desk.need(-1, 0, true));
        Checks.badArgument("need(0, 0, false)", () -> desk.need(0, 0, false));
        Checks.outOfBounds("must(3, true)", () -> desk.must(3, true));
        Checks.outOfBounds("must(-1, true)", () -> desk.must(-1, true));
        Checks.outOfBounds("never(3, false)", () -> desk.never(3, false));
        Checks.outOfBounds("never(-1, false)", () -> desk.never(-1, false));
    }

    private static void promises54And55() {
        ParetoDesk desk = Checks.deskOf(SINGLES);
        Checks.same("choose(512)", desk.choose(512), 0);
        Checks.same("choose(0)", desk.choose(0), 512);
        Checks.same("choose(256)", desk.choose(256), 0);
        Checks.badState("choose a refused one", () -> desk.choose(2048));
        Checks.badArgument("choose(4096)", () -> desk.choose(4096));
        Checks.badArgument("choose(-1)", () -> desk.choose(-1));
        Checks.same("the choice at hand", desk.property(7), 256);
        Checks.same("chooseBest(1, 1)", desk.chooseBest(1, 1), 4);
        Checks.same("the choice at hand then", desk.property(7), 4);
        Checks.same("chooseBest(0, 1)", desk.chooseBest(0, 1), 1);
        Checks.same("chooseBest(7, 6)", desk.chooseBest(7, 6), 4);
        ParetoDesk none = Checks.deskOf(NOTHING_ALLOWED);
        Checks.badState("chooseBest without points", () -> none.chooseBest(1, 1));
        Checks.badState("choose where none is allowed", () -> none.choose(0));
    }

    private static void promise56() {
        ParetoDesk desk = Checks.deskOf("capacity 2 limit 12; item weight 1 gain 1 joy 1; item weight 1 gain 2 joy 2;"
            + "item weight 1 gain 3 joy 3;");
        Checks.same("improve(1, 1)", desk.improve(1, 1), 2);
        Checks.same("the choice at hand", desk.property(7), 6);
        Checks.same("improve(1, 1) again", desk.improve(1, 1), 0);
        Checks.same("undoCount", desk.undoCount(), 3);
        desk.undo();
        desk.undo();
        Checks.same("the choice at hand, undone", desk.property(7), 0);
        desk.choose(1);
        Checks.same("improve(0, 99)", desk.improve(0, 99), 2);
        Checks.same("the choice at hand then", desk.property(7), 6);
    }

    private static void promises57And58() {
        ParetoDesk desk = Checks.deskOf("capacity 9 limit 2; item weight 1 gain 1 joy 1; item weight 4 gain 2 joy 2;"
            + "item weight 3 gain 3 joy 3; need 2 1;");
        Checks.same("take(1)", desk.take(1), 4);
        Checks.badState("take(1) again", () -> desk.take(1));
        Checks.same("take(2)", desk.take(2), 7);
        Checks.badState("take(0) above the limit", () -> desk.take(0));
        Checks.badState("leave(1) that another one needs", () -> desk.leave(1));
        Checks.badState("leave(0) that it does not have", () -> desk.leave(0));
        Checks.outOfBounds("take(3)", () -> desk.take(3));
        Checks.outOfBounds("take(-1)", () -> desk.take(-1));
        Checks.outOfBounds("leave(3)", () -> desk.leave(3));
        Checks.outOfBounds("leave(-1)", () -> desk.leave(-1));
        Checks.same("the choice at hand", desk.property(7), 6);
        Checks.same("leave(2)", desk.leave(2), 4);
        Checks.same("leave(1)", desk.leave(1), 0);
        Checks.same("undoCount", desk.undoCount(), 5);
        Checks.badState("take(2) without its need", () -> desk.take(2));
        desk.choose(6);
        desk.setCapacity(0);
        Checks.badState("leave to another refused choice", () -> desk.leave(2));
        Checks.same("a refused choice at hand stays", desk.property(7), 6);
    }

    private static void promises59And60() {
        ParetoDesk desk = Checks.deskOf(RULES);
        desk.choose(8);
        String kept = Checks.state(desk);
        Checks.same("keep(1)", desk.keep(1), 4);
        Checks.same("undoCount behind keep", desk.undoCount(), 2);
        Checks.badState("restore(0)", () -> desk.restore(0));
        desk.dropItem(2);
        desk.setCapacity(7);
        String changed = Checks.state(desk);
        Checks.same("keep(0)", desk.keep(0), 3);
        Checks.same("restore(1)", desk.restore(1), 4);
        Checks.sameText("what was restored", Checks.state(desk), kept);
        Checks.same("undoCount behind restore", desk.undoCount(), 5);
        Checks.same("points of what was restored", desk.points(), 1);
        desk.undo();
        Checks.sameText("a restore undone", Checks.state(desk), changed);
        desk.addItem(1, 1, 1);
        Checks.same("restore(1) once more", desk.restore(1), 4);
        Checks.sameText("a slot keeps it", Checks.state(desk), kept);
        Checks.load(desk, "capacity 1 limit 1;");
        Checks.same("restore(0) behind load", desk.restore(0), 3);
        Checks.sameText("slots stay behind load", Checks.state(desk), changed);
        desk.setLimit(1);
        desk.keep(0);
        desk.setLimit(2);
        desk.restore(0);
        Checks.same("keep in place of what was there", desk.property(2), 1);
        Checks.outOfBounds("keep(2)", () -> desk.keep(2));
        Checks.outOfBounds("keep(-1)", () -> desk.keep(-1));
        Checks.outOfBounds("restore(2)", () -> desk.restore(2));
        Checks.outOfBounds("restore(-1)", () -> desk.restore(-1));
    }

    private static void promises61And62() {
        ParetoDesk desk = new ParetoDesk();
        Checks.badState("undo of nothing", () -> desk.undo());
        ParetoDesk all = Checks.deskOf("capacity 9 limit 9; item weight 1 gain 1 joy 2; item weight 1 gain 2 joy 1;");
        String[] states = new String[16];
        for (int call = 0; call < 16; call++) {
            int due = Math.min(8, call + 1);
            Checks.same("undoCount ahead of call " + call, all.undoCount(), due);
            states[call] = Checks.state(all);
            undoable(all, call);
        }
        Checks.same("undoCount of 17 calls", all.undoCount(), 8);
        Checks.same("errorPosition", all.errorPosition(), -1);
        for (int call = 15; call >= 8; call--) {
            Checks.same("undo of call " + call, all.undo(), call - 8);
            Checks.sameText("the state ahead of call " + call, Checks.state(all), states[call]);
        }
        Checks.badState("undo of a ninth call", () -> all.undo());
        Checks.sameText("the state ahead of the eight", Checks.state(all), states[8]);
        for (int call = 0; call < 16; call++) {
            ParetoDesk one = Checks.deskOf("capacity 9 limit 9; item weight 1 gain 1 joy 2; item weight 1 gain 2 joy 1;");
            one.keep(0);
            String before = Checks.state(one);
            undoable(one, call);
            Checks.same("undoCount of call " + call, one.undoCount(), 2);
            Checks.same("undo of call " + call + " alone", one.undo(), 1);
            Checks.sameText("the state ahead of call " + call + " alone", Checks.state(one), before);
            Checks.same("points behind undo of call " + call, one.points(), 1);
        }
        // undo() leaves the buffers and slots.
        ParetoDesk rest = new ParetoDesk();
        rest.setLimit(3);
        rest.keep(0);
        rest.writeFrontier();
        rest.append(1, 2, 3, 4, 5);
        rest.undo();
        Checks.same("the output behind undo", rest.outputByte(3), '!');
        Checks.same("the input behind undo", rest.append(1, 2, 3, 4, 5), 40);
        Checks.same("the slot behind undo", rest.restore(0), 0);
        Checks.same("the slot's limit behind undo", rest.property(2), 3);
    }

    /** One of the calls that can be undone; the last ones change nothing on a desk of two free items. */
    private static void undoable(ParetoDesk desk, int call) {
        switch (call) {
            case 0: desk.addItem(1, 1, 1); break;
            case 1: desk.dropItem(0); break;
            case 2: desk.setItem(0, 1, 77); break;
            case 3: desk.setCapacity(500); break;
            case 4: desk.setLimit(1); break;
            case 5: desk.bar(0, 1, true); break;
            case 6: desk.need(1, 0, true); desk.undo(); desk.need(0, 1, true); break;
            case 7: desk.must(0, false); break;
            case 8: desk.never(1, true); break;
            case 9: desk.never(1, false); break;
            case 10: desk.chooseBest(1, 1); break;
            case 11: desk.improve(1, 1); break;
            case 12: desk.keep(1); desk.restore(1); break;
            case 13: Checks.load(desk, "capacity 8 limit 8; item weight 1 gain 1 joy 1; item weight 1 gain 1 joy 1;"); break;
            case 14: desk.choose(desk.property(7)); break;
            default: desk.take(hasFirst(desk) ? 1 : 0); break;
        }
    }

    private static boolean hasFirst(ParetoDesk desk) {
        return (desk.property(7) & 1) != 0;
    }

    private static void promises63To65() {
        ParetoDesk desk = Checks.deskOf(SINGLES);
        Checks.sameText("the frontier", Checks.frontier(desk), "0,12! 2,11+ 4,10! 5,8. 6,7+ 7,5. 8,4! 9,0!");
        Checks.same("writeChoices()", desk.writeChoices(), 8 * 13);
        Checks.sameText("the choices", Checks.output(desk, 39), "100000000000\n010000000000\n001000000000\n");
        Checks.same("the last byte", desk.outputByte(103), '\n');
        Checks.outOfBounds("outputByte(104)", () -> desk.outputByte(104));
        Checks.outOfBounds("outputByte(-1)", () -> desk.outputByte(-1));
        desk.setLimit(0);
        Checks.same("the output behind a change", desk.outputByte(1), '0');
        Checks.same("writeFrontier()", desk.writeFrontier(), 4);
        Checks.outOfBounds("outputByte(4)", () -> desk.outputByte(4));
        ParetoDesk none = Checks.deskOf(NOTHING_ALLOWED);
        Checks.same("the frontier without points", none.writeFrontier(), 0);
        Checks.outOfBounds("outputByte(0) of it", () -> none.outputByte(0));
        Checks.same("the choices without points", none.writeChoices(), 0);
        ParetoDesk rich = new ParetoDesk();
        rich.setCapacity(999);
        for (int i = 0; i < 12; i++) {
            rich.addItem(0, 99, 99);
        }
        Checks.sameText("the greatest sums", Checks.frontier(rich), "1188,1188!");
        Checks.same("the greatest area", rich.area(), 1188 * 1188);
        Checks.same("the layer of the greatest sums", rich.layerOf(4095), 0);
        Checks.same("the layer of no sums", rich.layerOf(0), 12);
    }

    /** What was asked ahead of a change must not be answered again behind it, whichever call comes first. */
    private static void firstCallBehindAChange() {
        Checks.same("point", changedDesk().point(1, 0), 3);
        Checks.same("lightest", changedDesk().lightest(1), 2);
        Checks.same("apart", changedDesk().apart(0, 1), 2);
        Checks.same("refusal", changedDesk().refusal(3), 2);
        Checks.same("sum", changedDesk().sum(2, 2), 1);
        Checks.same("allowed", changedDesk().allowed(), 3);
        Checks.same("points", changedDesk().points(), 2);
        Checks.same("steps", changedDesk().steps(), 1);
        Checks.same("knee", changedDesk().knee(), -1);
        Checks.same("layers", changedDesk().layers(), 2);
        Checks.same("layerOf", changedDesk().layerOf(0), 1);
        Checks.same("vertex", changedDesk().vertex(1), 1);
        Checks.same("box", changedDesk().box(0, 1), 1);
        Checks.same("area", changedDesk().area(), 4);
        Checks.same("worth", changedDesk().worth(1), 2);
        Checks.same("lostWithout", changedDesk().lostWithout(1), 1);
        Checks.same("pointsWith", changedDesk().pointsWith(1), 2);
        Checks.same("capacityFor", changedDesk().capacityFor(3, 0), 1);
        Checks.same("climb", changedDesk().climb(1, 1), 2);
        Checks.same("take", changedDesk().take(1), 1);
        Checks.same("chooseBest", changedDesk().chooseBest(1, 1), 2);
        Checks.sameText("writeFrontier", Checks.frontier(changedDesk()), "1,2! 3,1!");
    }

    /** A desk that was asked for all it works out, and then changed. */
    private static ParetoDesk changedDesk() {
        ParetoDesk desk = Checks.deskOf("capacity 9 limit 12; item weight 1 gain 1 joy 2; item weight 1 gain 2 joy 1;");
        Checks.same("points ahead of a change", desk.points() + desk.steps() + desk.layers(), 1 + 0 + 3);
        desk.setLimit(1);
        Checks.same("points between two changes", desk.points() + desk.steps() + desk.layers(), 2 + 1 + 2);
        desk.setItem(1, 1, 3);
        return desk;
    }

    private static void throwingChangesNothing() {
        ParetoDesk desk = Checks.deskOf(RULES);
        desk.choose(8);
        String before = Checks.state(desk);
        Checks.badArgument("addItem", () -> desk.addItem(1, 1, 100));
        Checks.outOfBounds("dropItem", () -> desk.dropItem(4));
        Checks.badArgument("setItem", () -> desk.setItem(0, 0, 100));
        Checks.badArgument("setCapacity", () -> desk.setCapacity(1000));
        Checks.badArgument("setLimit", () -> desk.setLimit(13));
        Checks.badArgument("bar", () -> desk.bar(1, 1, true));
        Checks.badArgument("need", () -> desk.need(1, 1, true));
        Checks.outOfBounds("must", () -> desk.must(4, true));
        Checks.outOfBounds("never", () -> desk.never(4, true));
        Checks.badState("choose", () -> desk.choose(0));
        Checks.badArgument("chooseBest", () -> desk.chooseBest(0, 0));
        Checks.badArgument("improve", () -> desk.improve(0, 0));
        Checks.badState("take", () -> desk.take(3));
        Checks.badState("leave", () -> desk.leave(3));
        Checks.badState("restore", () -> desk.restore(0));
        Checks.outOfBounds("keep", () -> desk.keep(2));
        Checks.sameText("the state behind calls that throw", Checks.state(desk), before);
        Checks.same("undoCount behind calls that throw", desk.undoCount(), 2);
        Checks.same("points behind calls that throw", desk.points(), 1);
    }
}
