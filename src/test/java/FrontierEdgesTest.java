import java.util.ArrayList;
import java.util.List;
import java.util.NoSuchElementException;

/** The boundary cases of section 3 and of promises 12 to 33: one method for each sentence of the document. */
public final class FrontierEdgesTest {
    private static final int MOST = Integer.MAX_VALUE;
    private static final int LEAST = Integer.MIN_VALUE;

    public static void main(String[] args) {
        beatsIfNeitherIsLess();
        eachPairOnce();
        numberedByGains();
        leastMask();
        numberOfPoints();
        pointThatDoesNotExist();
        pointOutOfRange();
        howManyChoices();
        weightOfItsChoice();
        lightestOne();
        lightestThatDoesNotExist();
        pointOfAnyChoice();
        pointOfOutOfRange();
        lowestThatBeats();
        beatenByOutOfRange();
        beatingAnyNumbers();
        joyForAnyNumber();
        gainForAnyNumber();
        bestOfSeveral();
        nearestOfSeveral();
        weightsOutOfRange();
        supportedPoints();
        oneOrTwoPoints();
        firstAndLastPoint();
        numberOfVertices();
        vertexThatDoesNotExist();
        numberOfSupported();
        rowsOfABox();
        boxWithoutPoints();
        boxThatDoesNotExist();
        boxOutOfRange();
        queueAtFirst();
        lowestOneFound();
        endOfTheQueue();
        findsNone();
        mostSteps();
        hundredsOfPoints();
        stepOutOfRange();
        stepThatDoesNotExist();
        fullestBox();
        areaOfPoints();
        kneeOfPoints();
        gapOfPoints();
        coreOfPoints();
        unusedOfPoints();
        Checks.end("FrontierEdgesTest");
    }

    /** Twelve points, each of which is a vertex. */
    private static ParetoDesk bow() {
        return Desks.ofPairs(0, 99, 1, 98, 2, 96, 3, 93, 4, 89, 5, 84, 6, 78, 7, 71, 8, 63, 9, 54, 10, 44, 11, 33);
    }

    /** No point, one, two and many. */
    private static ParetoDesk[] ofAllSizes() {
        return new ParetoDesk[] {Desks.none(), new ParetoDesk(), Desks.ofPairs(0, 3, 3, 0), Desks.line()};
    }

    // ---- points ----

    private static void beatsIfNeitherIsLess() {
        Checks.sentence("2. CHOICES", "A pair of a gain and a joy beats another pair if neither number is less and one is greater.");
        Checks.sameText("the same pair", Checks.frontier(Desks.ofPairs(3, 4, 3, 4)), "3,4!");
        Checks.sameText("the same gain", Checks.frontier(Desks.ofPairs(3, 4, 3, 5)), "3,5!");
        Checks.sameText("the same joy", Checks.frontier(Desks.ofPairs(3, 4, 4, 4)), "4,4!");
        Checks.sameText("both greater", Checks.frontier(Desks.ofPairs(3, 4, 4, 5)), "4,5!");
        Checks.sameText("one greater, one less", Checks.frontier(Desks.ofPairs(3, 4, 4, 3)), "3,4! 4,3!");
        Checks.sameText("no gain", Checks.frontier(Desks.ofPairs(0, 1)), "0,1!");
        Checks.sameText("no joy", Checks.frontier(Desks.ofPairs(1, 0)), "1,0!");
        Checks.sameText("no gain and no joy", Checks.frontier(Desks.ofPairs(0, 0)), "0,0!");
    }

    private static void eachPairOnce() {
        Checks.sentence("3. FRONTIER", "The points are the pairs of gain and joy of allowed choices that no pair of an allowed choice"
            + " beats, each pair once.");
        Checks.same("of one pair", Desks.ofPairs(5, 5, 5, 5, 5, 5).points(), 1);
        Checks.same("of two pairs", Desks.ofPairs(5, 6, 6, 5, 5, 6, 6, 5).points(), 2);
        ParetoDesk refused = Desks.ofPairs(9, 9, 5, 5);
        refused.never(0, true);
        Checks.sameText("a refused choice beats none", Checks.frontier(refused), "5,5!");
        refused.must(0, true);
        Checks.sameText("no allowed choice", Checks.frontier(refused), "");
    }

    private static void numberedByGains() {
        Checks.sentence("3. FRONTIER", "They are numbered from 0 by ascending gains (so by descending joys).");
        ParetoDesk desk = Desks.line();
        for (int point = 0; point < 64; point++) {
            Checks.same(Desks.named("point", point, 0), desk.point(point, 0), point);
            Checks.same(Desks.named("point", point, 1), desk.point(point, 1), 63 - point);
            Checks.same(Desks.named("point", point, 2), desk.point(point, 2), Desks.onLine(point));
        }
        ParetoDesk wide = Desks.ofPairs(99, 0, 0, 99);
        Checks.sameText("the least gain and the greatest one", Checks.frontier(wide), "0,99! 99,0!");
        Checks.sameText("the greatest sums", Checks.frontier(Desks.twelve(99, 99)), "1188,1188!");
    }

    private static void leastMask() {
        Checks.sentence("3. FRONTIER", "The choice of a point is, of all allowed choices with its pair, the one with the least mask.");
        Checks.same("of two items", Desks.ofPairs(1, 1, 5, 5, 5, 5).point(0, 2), 2);
        ParetoDesk two = Checks.deskOf("capacity 9 limit 9; item weight 4 gain 2 joy 3; item weight 4 gain 3 joy 2;"
            + "item weight 1 gain 5 joy 5; bar 0 2; bar 1 2;");
        Checks.same("of two items and one", two.point(0, 2), 3);
        two.setCapacity(7);
        Checks.same("of one allowed", two.point(0, 2), 4);
        Checks.same("of twelve items that are nothing", Desks.twelve(0, 0).point(0, 2), 0);
        Checks.same("of twelve items", Desks.twelve(99, 99).point(0, 2), 4095);
    }

    private static void numberOfPoints() {
        Checks.sentence("Promise 12", "Returns the number of points.");
        int[] due = {0, 1, 2, 64};
        ParetoDesk[] desks = ofAllSizes();
        for (int i = 0; i < due.length; i++) {
            Checks.same("points() of " + due[i], desks[i].points(), due[i]);
        }
    }

    private static void pointThatDoesNotExist() {
        Checks.sentence("Promise 13", "Throws `IndexOutOfBoundsException` if there is no such point");
        int[] sizes = {0, 1, 2, 64};
        ParetoDesk[] desks = ofAllSizes();
        for (int i = 0; i < sizes.length; i++) {
            ParetoDesk desk = desks[i];
            int size = sizes[i];
            Checks.outOfBounds(Desks.named("point", size, 0), () -> desk.point(size, 0));
            Checks.outOfBounds(Desks.named("point", size, 7), () -> desk.point(size, 7));
            for (int far : Desks.FAR) {
                Checks.outOfBounds(Desks.named("point", far, 0), () -> desk.point(far, 0));
                Checks.outOfBounds(Desks.named("point", far, far), () -> desk.point(far, far));
            }
        }
        Checks.same("the last point", desks[3].point(63, 0), 63);
    }

    private static void pointOutOfRange() {
        Checks.sentence("Promise 13", "Throws `IllegalArgumentException` if what is out of range");
        ParetoDesk desk = new ParetoDesk();
        int[] due = {0, 0, 0, 1, 0, 1, 1};
        for (int what = 0; what <= 6; what++) {
            Checks.same(Desks.named("point", 0, what), desk.point(0, what), due[what]);
        }
        Checks.badArgument("point(0, 7)", () -> desk.point(0, 7));
        for (int far : Desks.FAR) {
            Checks.badArgument(Desks.named("point", 0, far), () -> desk.point(0, far));
        }
    }

    private static void howManyChoices() {
        Checks.sentence("Promise 13", "3 how many allowed choices have its pair;");
        Checks.same("one", Desks.ofPairs(5, 5).point(0, 3), 1);
        Checks.same("three", Desks.ofPairs(5, 5, 5, 5, 5, 5).point(0, 3), 3);
        ParetoDesk all = Desks.twelve(0, 0);
        Checks.same("all", all.point(0, 3), 4096);
        all.never(11, true);
        Checks.same("all that are allowed", all.point(0, 3), 2048);
    }

    private static void weightOfItsChoice() {
        Checks.sentence("Promise 13", "4 the weight of its choice;");
        ParetoDesk desk = Checks.deskOf("capacity 99 limit 1; item weight 99 gain 5 joy 5; item weight 1 gain 5 joy 5;");
        Checks.same("the weight of its choice, not of the lightest", desk.point(0, 4), 99);
        Checks.same("no weight", new ParetoDesk().point(0, 4), 0);
    }

    private static void lightestOne() {
        Checks.sentence("Promise 14", "Returns of all allowed choices with its pair the lightest one, of several the one with the"
            + " least mask.");
        ParetoDesk desk = Checks.deskOf("capacity 3 limit 1; item weight 3 gain 5 joy 5; item weight 2 gain 5 joy 5;"
            + "item weight 1 gain 5 joy 5; item weight 1 gain 5 joy 5; item weight 0 gain 5 joy 4;");
        Checks.same("the lightest of four", desk.lightest(0), 4);
        desk.never(2, true);
        Checks.same("a lightest one that is refused", desk.lightest(0), 8);
        desk.never(3, true);
        Checks.same("the lightest of two", desk.lightest(0), 2);
        desk.never(1, true);
        Checks.same("the lightest of one", desk.lightest(0), 1);
        Checks.same("of no items", new ParetoDesk().lightest(0), 0);
        ParetoDesk even = Checks.deskOf("capacity 9 limit 1; item weight 1 gain 5 joy 5; item weight 1 gain 5 joy 5;");
        Checks.same("of the same weight", even.lightest(0), 1);
        ParetoDesk light = Checks.deskOf("capacity 9 limit 9; item weight 3 gain 0 joy 0; item weight 0 gain 0 joy 0;");
        Checks.same("of nothing", light.lightest(0), 0);
    }

    private static void lightestThatDoesNotExist() {
        Checks.sentence("Promise 14", "Throws `IndexOutOfBoundsException` if there is no such point");
        int[] sizes = {0, 1, 2, 64};
        ParetoDesk[] desks = ofAllSizes();
        for (int i = 0; i < sizes.length; i++) {
            ParetoDesk desk = desks[i];
            int size = sizes[i];
            Checks.outOfBounds(Desks.named("lightest", size), () -> desk.lightest(size));
            for (int far : Desks.FAR) {
                Checks.outOfBounds(Desks.named("lightest", far), () -> desk.lightest(far));
            }
        }
        Checks.same("lightest(63)", desks[3].lightest(63), 63);
    }

    private static void pointOfAnyChoice() {
        Checks.sentence("Promise 15", "Returns the point whose pair this choice has, allowed or not; NONE if there is none.");
        ParetoDesk desk = Desks.ofPairs(0, 3, 3, 0, 1, 1, 2, 0, 1, 0);
        Checks.same("an allowed choice", desk.pointOf(1), 0);
        Checks.same("the last point", desk.pointOf(2), 2);
        Checks.same("a refused choice of the same pair", desk.pointOf(8 + 16), 2);
        Checks.same("an allowed choice of another pair", desk.pointOf(8), -1);
        Checks.same("a refused choice of a pair that beats", desk.pointOf(1 + 2), -1);
        Checks.same("the same gain, another joy", desk.pointOf(2 + 1), -1);
        Checks.same("the empty choice", desk.pointOf(0), -1);
        Checks.same("the empty choice of no items", new ParetoDesk().pointOf(0), 0);
        Checks.same("without points", Desks.none().pointOf(3), -1);
        ParetoDesk most = Desks.twelve(99, 99);
        Checks.same("the greatest sums", most.pointOf(4095), 0);
        Checks.same("less than the greatest sums", most.pointOf(4094), -1);
        most.setLimit(0);
        Checks.same("the greatest sums, refused", most.pointOf(4095), -1);
        Checks.same("the least sums", most.pointOf(0), 0);
    }

    private static void pointOfOutOfRange() {
        Checks.sentence("Promise 15", "Throws `IllegalArgumentException` if set is out of range");
        for (int far : Desks.FAR) {
            Checks.badArgument(Desks.named("pointOf", far), () -> Desks.none().pointOf(far));
        }
        Checks.badArgument("pointOf(4)", () -> Desks.none().pointOf(4));
        Checks.badArgument("pointOf(1) of no items", () -> new ParetoDesk().pointOf(1));
        Checks.badArgument("pointOf(4096)", () -> Desks.line().pointOf(4096));
    }

    private static void lowestThatBeats() {
        Checks.sentence("Promise 16", "Returns the lowest point that beats the pair of this choice, allowed or not; NONE if there is"
            + " none.");
        ParetoDesk desk = Desks.ofPairs(0, 3, 2, 2, 3, 0, 1, 2, 0, 0, 1, 1);
        Checks.same("a point's choice", desk.beatenBy(2), -1);
        Checks.same("beaten by one", desk.beatenBy(8), 1);
        Checks.same("beaten by all", desk.beatenBy(0), 0);
        Checks.same("an item beaten by all", desk.beatenBy(16), 0);
        Checks.same("a refused choice that is beaten", desk.beatenBy(16 + 32), 1);
        Checks.same("a refused choice of a point's pair", desk.beatenBy(2 + 16), -1);
        Checks.same("a refused choice that beats", desk.beatenBy(7), -1);
        Checks.same("the first one of the same joy", desk.beatenBy(8 + 16), 1);
        Checks.same("of no items", new ParetoDesk().beatenBy(0), -1);
        Checks.same("without points", Desks.none().beatenBy(0), -1);
        Checks.same("the last point alone", Desks.ofPairs(0, 3, 4, 2, 4, 0).beatenBy(4), 1);
        Checks.same("the first point alone", Desks.ofPairs(0, 3, 4, 2, 0, 2, 0, 3).beatenBy(4), 0);
    }

    private static void beatenByOutOfRange() {
        Checks.sentence("Promise 16", "Throws `IllegalArgumentException` if set is out of range");
        for (int far : Desks.FAR) {
            Checks.badArgument(Desks.named("beatenBy", far), () -> Desks.none().beatenBy(far));
        }
        Checks.badArgument("beatenBy(4)", () -> Desks.none().beatenBy(4));
        Checks.badArgument("beatenBy(1) of no items", () -> new ParetoDesk().beatenBy(1));
        Checks.badArgument("beatenBy(4096)", () -> Desks.line().beatenBy(4096));
    }

    private static void beatingAnyNumbers() {
        Checks.sentence("Promise 17", "Returns how many points beat this pair.");
        ParetoDesk one = Desks.ofPairs(3, 4);
        Checks.same("the same pair", one.beating(3, 4), 0);
        Checks.same("a gain less", one.beating(2, 4), 1);
        Checks.same("a joy less", one.beating(3, 3), 1);
        Checks.same("a gain more", one.beating(4, 3), 0);
        Checks.same("a joy more", one.beating(2, 5), 0);
        Checks.sentence("Promise 17", "`gain`: any number");
        ParetoDesk line = Desks.line();
        Checks.same("the least numbers", line.beating(LEAST, LEAST), 64);
        Checks.same("the greatest numbers", line.beating(MOST, MOST), 0);
        Checks.same("the least gain, the greatest joy", line.beating(LEAST, MOST), 0);
        Checks.same("the greatest gain, the least joy", line.beating(MOST, LEAST), 0);
        Checks.same("the least gain, a joy", line.beating(LEAST, 63), 1);
        Checks.same("a gain, the least joy", line.beating(63, LEAST), 1);
        Checks.same("no gain, no joy", line.beating(0, 0), 64);
        Checks.same("below all", line.beating(-1, -1), 64);
        Checks.same("the first point", line.beating(0, 63), 0);
        Checks.same("below the first point", line.beating(-1, 63), 1);
        Checks.same("beside a point", line.beating(30, 32), 2);
        Checks.same("without points", Desks.none().beating(LEAST, LEAST), 0);
        Checks.same("of no items", new ParetoDesk().beating(0, 0), 0);
        Checks.same("of no items, less", new ParetoDesk().beating(0, -1), 1);
    }

    private static void joyForAnyNumber() {
        Checks.sentence("Promise 18", "Returns the greatest joy of a point whose gain is at least this; NONE if there is none.");
        ParetoDesk desk = Desks.eight();
        Checks.same("the gain of a point", desk.joyFor(2), 11);
        Checks.same("a gain between points", desk.joyFor(3), 10);
        Checks.same("the greatest gain", desk.joyFor(9), 0);
        Checks.same("above the greatest gain", desk.joyFor(10), -1);
        Checks.same("the least gain", desk.joyFor(0), 12);
        Checks.same("below the least gain", desk.joyFor(-1), 12);
        Checks.same("the least number", desk.joyFor(LEAST), 12);
        Checks.same("the greatest number", desk.joyFor(MOST), -1);
        Checks.same("without points", Desks.none().joyFor(LEAST), -1);
        Checks.same("of no items", new ParetoDesk().joyFor(0), 0);
        Checks.same("above no items", new ParetoDesk().joyFor(1), -1);
    }

    private static void gainForAnyNumber() {
        Checks.sentence("Promise 19", "Returns the greatest gain of a point whose joy is at least this; NONE if there is none.");
        ParetoDesk desk = Desks.eight();
        Checks.same("the joy of a point", desk.gainFor(11), 2);
        Checks.same("a joy between points", desk.gainFor(9), 4);
        Checks.same("the greatest joy", desk.gainFor(12), 0);
        Checks.same("above the greatest joy", desk.gainFor(13), -1);
        Checks.same("the least joy", desk.gainFor(0), 9);
        Checks.same("above the least joy", desk.gainFor(1), 8);
        Checks.same("the least number", desk.gainFor(LEAST), 9);
        Checks.same("the greatest number", desk.gainFor(MOST), -1);
        Checks.same("without points", Desks.none().gainFor(LEAST), -1);
        Checks.same("of no items", new ParetoDesk().gainFor(0), 0);
        Checks.same("above no items", new ParetoDesk().gainFor(1), -1);
    }

    private static void bestOfSeveral() {
        Checks.sentence("Promise 20", "Returns the point of the greatest value by these weights, the lowest one of several; NONE"
            + " without points.");
        ParetoDesk line = Desks.line();
        Checks.same("of 64 points of one value", line.best(1, 1), 0);
        Checks.same("of 64 points of one value, by 99", line.best(99, 99), 0);
        Checks.same("gain counts more", line.best(99, 98), 63);
        Checks.same("joy counts more", line.best(98, 99), 0);
        Checks.same("gain alone", line.best(1, 0), 63);
        Checks.same("joy alone", line.best(0, 1), 0);
        Checks.same("the lowest of three in the middle", Desks.eight().best(3, 2), 2);
        Checks.same("of the last two", Desks.eight().best(4, 1), 6);
        Checks.same("without points", Desks.none().best(99, 99), -1);
        Checks.same("of no items", new ParetoDesk().best(1, 1), 0);
        Checks.same("of the greatest sums", Desks.twelve(99, 99).best(99, 99), 0);
    }

    private static void nearestOfSeveral() {
        Checks.sentence("Promise 21", "Returns the point for which the greater one of p times what its gain lacks to the greatest gain,"
            + " and q times what its joy lacks to the greatest joy, is least, the lowest one of several; NONE without points.");
        ParetoDesk four = Desks.ofPairs(0, 6, 2, 5, 5, 2, 6, 0);
        Checks.same("of two that lack 4", four.nearest(1, 1), 1);
        Checks.same("gain counts more", four.nearest(99, 1), 3);
        Checks.same("joy counts more", four.nearest(1, 99), 0);
        Checks.same("gain counts twice", four.nearest(2, 1), 2);
        Checks.same("weights of 2 and 3", four.nearest(2, 3), 1);
        Checks.same("weights of 3 and 2", four.nearest(3, 2), 2);
        Checks.same("gain alone", four.nearest(99, 0), 3);
        Checks.same("joy alone", four.nearest(0, 99), 0);
        Checks.same("of two points", Desks.ofPairs(0, 3, 3, 0).nearest(1, 1), 0);
        Checks.same("in the middle of a line", Desks.line().nearest(1, 1), 31);
        Checks.same("of no items", new ParetoDesk().nearest(99, 99), 0);
        Checks.same("without points", Desks.none().nearest(1, 1), -1);
    }

    private static void weightsOutOfRange() {
        int[][] wrong = {{0, 0}, {-1, 1}, {1, -1}, {100, 1}, {1, 100}, {100, 0}, {0, 100}, {-1, -1}, {LEAST, 1}, {1, MOST}, {-1, 0},
            {0, LEAST}, {100, 100}};
        for (ParetoDesk desk : ofAllSizes()) {
            for (int[] w : wrong) {
                Checks.sentence("Promise 20", "Throws `IllegalArgumentException` if p or q is out of range");
                Checks.badArgument(Desks.named("best", w), () -> desk.best(w[0], w[1]));
                Checks.sentence("Promise 21", "Throws `IllegalArgumentException` if p or q is out of range");
                Checks.badArgument(Desks.named("nearest", w), () -> desk.nearest(w[0], w[1]));
            }
        }
        Checks.sentence("Promise 20", "`q`: 0 to 99, not both of them 0");
        Checks.same("best(0, 99)", new ParetoDesk().best(0, 99), 0);
        Checks.same("best(99, 0)", new ParetoDesk().best(99, 0), 0);
        Checks.sentence("Promise 21", "`q`: 0 to 99, not both of them 0");
        Checks.same("nearest(0, 99)", new ParetoDesk().nearest(0, 99), 0);
        Checks.same("nearest(99, 0)", new ParetoDesk().nearest(99, 0), 0);
    }

    // ---- vertices and boxes ----

    private static void supportedPoints() {
        Checks.sentence("3. FRONTIER", "A point is supported if for some p and q above 0 no point has a greater value; it is a vertex if"
            + " for some p and q above 0 all other points have less.");
        Checks.sameText("on the line", Checks.frontier(Desks.ofPairs(0, 99, 50, 49, 99, 0)), "0,99! 50,49+ 99,0!");
        Checks.sameText("above the line", Checks.frontier(Desks.ofPairs(0, 99, 50, 50, 99, 0)), "0,99! 50,50! 99,0!");
        Checks.sameText("below the line", Checks.frontier(Desks.ofPairs(0, 99, 50, 48, 99, 0)), "0,99! 50,48. 99,0!");
        Checks.sameText("a steep line", Checks.frontier(Desks.ofPairs(0, 99, 1, 50, 2, 1)), "0,99! 1,50+ 2,1!");
        Checks.sameText("a flat line", Checks.frontier(Desks.ofPairs(1, 2, 50, 1, 99, 0)), "1,2! 50,1+ 99,0!");
        Checks.sameText("above one, then beneath another", Checks.frontier(Desks.ofPairs(0, 9, 1, 6, 2, 4, 5, 3, 6, 0)),
            "0,9! 1,6. 2,4. 5,3! 6,0!");
        Checks.same("all of a bow", bow().vertices(), 12);
        ParetoDesk below = Desks.ofPairs(0, 99, 50, 48, 99, 0);
        Checks.same("a point below the line is not supported", below.point(1, 5), 0);
        Checks.same("a point below the line is no vertex", below.point(1, 6), 0);
        ParetoDesk line = Desks.line();
        for (int point = 0; point < 64; point++) {
            Checks.same(Desks.named("point", point, 5), line.point(point, 5), 1);
            Checks.same(Desks.named("point", point, 6), line.point(point, 6), point % 63 == 0 ? 1 : 0);
        }
    }

    private static void oneOrTwoPoints() {
        Checks.sentence("3. FRONTIER", "(All points of a frontier of one or two points are vertices; the first and the last point"
            + " always are.)");
        Checks.sameText("one", Checks.frontier(new ParetoDesk()), "0,0!");
        Checks.sameText("two", Checks.frontier(Desks.ofPairs(0, 1, 1, 0)), "0,1! 1,0!");
        Checks.sameText("two far ones", Checks.frontier(Desks.ofPairs(98, 99, 99, 0)), "98,99! 99,0!");
        Checks.same("supported of two", Desks.ofPairs(0, 1, 1, 0).supported(), 2);
    }

    private static void firstAndLastPoint() {
        Checks.sentence("3. FRONTIER", "the first and the last point always are.)");
        ParetoDesk[] desks = {Desks.eight(), bow(), Desks.line(), Desks.ofPairs(0, 9, 1, 6, 2, 4, 5, 3, 6, 0)};
        for (ParetoDesk desk : desks) {
            int last = desk.points() - 1;
            Checks.same("the first one", desk.point(0, 6), 1);
            Checks.same("the last one", desk.point(last, 6), 1);
            Checks.same("the first vertex", desk.vertex(0), 0);
            Checks.same("the last vertex", desk.vertex(desk.vertices() - 1), last);
        }
    }

    private static void numberOfVertices() {
        Checks.sentence("Promise 22", "Returns the number of vertices.");
        int[] due = {0, 1, 2, 2};
        ParetoDesk[] desks = ofAllSizes();
        for (int i = 0; i < due.length; i++) {
            Checks.same("vertices()", desks[i].vertices(), due[i]);
        }
        Checks.same("vertices() of a bow", bow().vertices(), 12);
    }

    private static void vertexThatDoesNotExist() {
        Checks.sentence("Promise 23", "Throws `IndexOutOfBoundsException` if there is no such vertex");
        int[] sizes = {0, 1, 2, 2};
        ParetoDesk[] desks = ofAllSizes();
        for (int i = 0; i < sizes.length; i++) {
            ParetoDesk desk = desks[i];
            int size = sizes[i];
            Checks.outOfBounds(Desks.named("vertex", size), () -> desk.vertex(size));
            for (int far : Desks.FAR) {
                Checks.outOfBounds(Desks.named("vertex", far), () -> desk.vertex(far));
            }
        }
        Checks.sentence("Promise 23", "`index`: index of a vertex, from 0 by ascending points");
        int[] due = {0, 2, 6, 7};
        for (int index = 0; index < due.length; index++) {
            Checks.same(Desks.named("vertex", index), Desks.eight().vertex(index), due[index]);
        }
        Checks.same("vertex(1) of a line", desks[3].vertex(1), 63);
        Checks.outOfBounds("vertex(4)", () -> Desks.eight().vertex(4));
        Checks.outOfBounds("vertex(12) of a bow", () -> bow().vertex(12));
    }

    private static void numberOfSupported() {
        Checks.sentence("Promise 24", "Returns the number of supported points.");
        int[] due = {0, 1, 2, 64};
        ParetoDesk[] desks = ofAllSizes();
        for (int i = 0; i < due.length; i++) {
            Checks.same("supported()", desks[i].supported(), due[i]);
        }
        Checks.same("supported() of eight", Desks.eight().supported(), 6);
        Checks.same("supported() of a hollow", Desks.ofPairs(0, 99, 50, 48, 99, 0).supported(), 2);
    }

    private static void rowsOfABox() {
        Checks.sentence("Promise 25", "`box`: index of a box, that of vertex 0 and vertex 1 is 0");
        int[][] due = {{0, 2, 1, 1, 2}, {2, 6, 3, 1, 7}, {6, 7, 0, 0, -1}};
        ParetoDesk desk = Desks.eight();
        for (int box = 0; box < due.length; box++) {
            for (int what = 0; what <= 4; what++) {
                Checks.same(Desks.named("box", box, what), desk.box(box, what), due[box][what]);
            }
        }
        int[] line = {0, 63, 62, 62, 62};
        for (int what = 0; what <= 4; what++) {
            Checks.same(Desks.named("box", 0, what) + " of a line", Desks.line().box(0, what), line[what]);
        }
    }

    private static void boxWithoutPoints() {
        Checks.sentence("Promise 25", "4 the greatest one of all gains of points between them (NONE without such points)");
        ParetoDesk two = Desks.ofPairs(0, 1, 1, 0);
        int[] due = {0, 1, 0, 0, -1};
        for (int what = 0; what <= 4; what++) {
            Checks.same(Desks.named("box", 0, what) + " of two points", two.box(0, what), due[what]);
        }
        Checks.same("of one point between", Desks.ofPairs(0, 9, 3, 1, 4, 0).box(0, 4), 3);
    }

    private static void boxThatDoesNotExist() {
        Checks.sentence("Promise 25", "Throws `IndexOutOfBoundsException` if there is no such box");
        int[] boxes = {0, 0, 1, 1};
        ParetoDesk[] desks = ofAllSizes();
        for (int i = 0; i < boxes.length; i++) {
            ParetoDesk desk = desks[i];
            int size = boxes[i];
            Checks.outOfBounds(Desks.named("box", size, 0), () -> desk.box(size, 0));
            Checks.outOfBounds(Desks.named("box", size, 5), () -> desk.box(size, 5));
            for (int far : Desks.FAR) {
                Checks.outOfBounds(Desks.named("box", far, 4), () -> desk.box(far, 4));
                Checks.outOfBounds(Desks.named("box", far, far), () -> desk.box(far, far));
            }
        }
        Checks.same("the last box of a bow", bow().box(10, 1), 11);
        Checks.outOfBounds("behind the last box of a bow", () -> bow().box(11, 1));
    }

    private static void boxOutOfRange() {
        Checks.sentence("Promise 25", "Throws `IllegalArgumentException` if what is out of range");
        ParetoDesk desk = Desks.line();
        Checks.badArgument("box(0, 5)", () -> desk.box(0, 5));
        for (int far : Desks.FAR) {
            Checks.badArgument(Desks.named("box", 0, far), () -> desk.box(0, far));
        }
    }

    // ---- the search ----

    private static void queueAtFirst() {
        Checks.sentence("3. FRONTIER", "boxes are held in a queue, at first that of the first and the last point, if there are two points"
            + " or more.");
        int[] due = {0, 0, 1, 1};
        ParetoDesk[] desks = ofAllSizes();
        for (int i = 0; i < due.length; i++) {
            Checks.sentence("Promise 26", "Returns the number of steps of the search.");
            Checks.same("steps()", desks[i].steps(), due[i]);
        }
        Checks.sentence("Promise 27", "`what`: 0 the point i, 1 the point j, 2 p, 3 q, 4 the point that it finds, NONE if it finds none");
        int[] line = {0, 63, 63, 63, -1};
        int[] two = {0, 1, 3, 3, -1};
        for (int what = 0; what <= 4; what++) {
            Checks.same(Desks.named("step", 0, what) + " of a line", desks[3].step(0, what), line[what]);
            Checks.same(Desks.named("step", 0, what) + " of two points", desks[2].step(0, what), two[what]);
        }
    }

    private static void lowestOneFound() {
        Checks.sentence("3. FRONTIER", "the step finds the one of the greatest value, the lowest one of several, k; the boxes of i and k,"
            + " and of k and j, come to the end of the queue.");
        ParetoDesk desk = Desks.ofPairs(0, 10, 4, 9, 9, 4, 10, 0);
        int[][] due = {{0, 3, 10, 10, 1}, {0, 1, 1, 4, -1}, {1, 3, 9, 6, 2}, {1, 2, 5, 5, -1}, {2, 3, 4, 1, -1}};
        Checks.same("steps()", desk.steps(), due.length);
        for (int step = 0; step < due.length; step++) {
            for (int what = 0; what <= 4; what++) {
                Checks.same(Desks.named("step", step, what), desk.step(step, what), due[step][what]);
            }
        }
    }

    private static void endOfTheQueue() {
        Checks.sentence("3. FRONTIER", "the boxes of i and k, and of k and j, come to the end of the queue.");
        ParetoDesk desk = Desks.ofPairs(0, 10, 4, 9, 7, 7, 9, 4, 10, 0);
        int[][] due = {{0, 4, 10, 10, 2}, {0, 2, 3, 7, 1}, {2, 4, 7, 3, 3}, {0, 1, 1, 4, -1}, {1, 2, 2, 3, -1}, {2, 3, 3, 2, -1},
            {3, 4, 4, 1, -1}};
        Checks.same("steps()", desk.steps(), due.length);
        for (int step = 0; step < due.length; step++) {
            for (int what = 0; what <= 4; what++) {
                Checks.same(Desks.named("step", step, what), desk.step(step, what), due[step][what]);
            }
        }
    }

    private static void findsNone() {
        Checks.sentence("3. FRONTIER", "Otherwise it finds none. The search ends when the queue is empty.");
        Checks.same("a point on the line", Desks.ofPairs(0, 99, 50, 49, 99, 0).steps(), 1);
        Checks.same("a point below the line", Desks.ofPairs(0, 99, 50, 48, 99, 0).steps(), 1);
        ParetoDesk above = Desks.ofPairs(0, 99, 50, 50, 99, 0);
        Checks.same("a point above the line", above.steps(), 3);
        Checks.same("what is found", above.step(0, 4), 1);
        Checks.same("what the second step finds", above.step(1, 4), -1);
        Checks.same("what the last step finds", above.step(2, 4), -1);
    }

    private static void mostSteps() {
        Checks.sentence("Promise 27", "`step`: index of a step of the search, from 0");
        ParetoDesk desk = bow();
        Checks.same("steps() of twelve vertices", desk.steps(), 21);
        int found = 0;
        for (int step = 0; step < 21; step++) {
            found += desk.step(step, 4) != -1 ? 1 : 0;
            Checks.same("p of step " + step, desk.step(step, 2),
                desk.point(desk.step(step, 0), 1) - desk.point(desk.step(step, 1), 1));
            Checks.same("q of step " + step, desk.step(step, 3),
                desk.point(desk.step(step, 1), 0) - desk.point(desk.step(step, 0), 0));
        }
        Checks.same("vertices found", found, 10);
    }

    /** Each item has a gain and a joy of 99 together, and six of twelve are chosen, so that all points lie on one line. */
    private static void hundredsOfPoints() {
        Checks.sentence("3. FRONTIER", "They are numbered from 0 by ascending gains");
        int[] gains = {0, 2, 3, 9, 16, 54, 74, 89, 94, 97, 98, 99};
        ParetoDesk desk = new ParetoDesk();
        desk.setLimit(6);
        for (int gain : gains) {
            desk.addItem(0, gain, 99 - gain);
        }
        int[] leastMask = new int[595];
        for (int set = 4095; set > 0; set--) {
            if (Integer.bitCount(set) == 6) {
                leastMask[gainOf(gains, set)] = set;
            }
        }
        List<String> pairs = new ArrayList<>();
        StringBuilder choices = new StringBuilder();
        for (int gain = 0; gain < leastMask.length; gain++) {
            if (leastMask[gain] != 0) {
                pairs.add(gain + "," + (594 - gain));
                for (int item = 0; item < 12; item++) {
                    choices.append(leastMask[gain] >> item & 1);
                }
                choices.append('\n');
            }
        }
        Checks.same("points()", desk.points(), pairs.size());
        Checks.same("supported()", desk.supported(), pairs.size());
        Checks.same("vertices()", desk.vertices(), 2);
        Checks.same("steps()", desk.steps(), 1);
        Checks.same("between the vertices", desk.box(0, 2), pairs.size() - 2);
        Checks.same("layerSize(0)", desk.layerSize(0), pairs.size());
        String line = String.join("+ ", pairs) + "!";
        sameEnds("the frontier", desk, desk.writeFrontier(), line.replaceFirst("\\+", "!"));
        sameEnds("the choices", desk, desk.writeChoices(), choices.toString());
        Checks.same("a long output", choices.length(), 332 * 13);
    }

    private static int gainOf(int[] gains, int set) {
        int sum = 0;
        for (int item = 0; item < gains.length; item++) {
            sum += (set >> item & 1) * gains[item];
        }
        return sum;
    }

    /** A desk is used for 512 calls at most, so that only the first and the last bytes of a long output are asked for. */
    private static void sameEnds(String what, ParetoDesk desk, int length, String due) {
        Checks.same("the length of " + what, length, due.length());
        for (int i = 0; i < 100; i++) {
            Checks.same("byte " + i + " of " + what, desk.outputByte(i), due.charAt(i));
            int back = due.length() - 1 - i;
            Checks.same("byte " + back + " of " + what, desk.outputByte(back), due.charAt(back));
        }
        Checks.outOfBounds("the byte behind " + what, () -> desk.outputByte(due.length()));
    }

    private static void stepOutOfRange() {
        Checks.sentence("Promise 27", "Throws `IllegalArgumentException` if what is out of range");
        for (ParetoDesk desk : ofAllSizes()) {
            Checks.badArgument("step(0, 5)", () -> desk.step(0, 5));
            for (int far : Desks.FAR) {
                Checks.badArgument(Desks.named("step", 0, far), () -> desk.step(0, far));
                Checks.badArgument(Desks.named("step", far, far), () -> desk.step(far, far));
                Checks.badArgument(Desks.named("step", far, 5), () -> desk.step(far, 5));
            }
        }
    }

    private static void stepThatDoesNotExist() {
        Checks.sentence("Promise 27", "Throws `NoSuchElementException` if there is no such step");
        int[] steps = {0, 0, 1, 1};
        ParetoDesk[] desks = ofAllSizes();
        for (int i = 0; i < steps.length; i++) {
            ParetoDesk desk = desks[i];
            int size = steps[i];
            Checks.throwing(Desks.named("step", size, 4), NoSuchElementException.class, () -> desk.step(size, 4));
            for (int far : Desks.FAR) {
                Checks.throwing(Desks.named("step", far, 0), NoSuchElementException.class, () -> desk.step(far, 0));
            }
        }
        Checks.throwing("step(21, 0)", NoSuchElementException.class, () -> bow().step(21, 0));
    }

    // ---- the shape of the frontier ----

    private static void fullestBox() {
        Checks.sentence("Promise 28", "Returns the box with the most points between its vertices, the lowest one of several; NONE without"
            + " boxes.");
        int[] due = {-1, -1, 0, 0};
        ParetoDesk[] desks = ofAllSizes();
        for (int i = 0; i < due.length; i++) {
            Checks.same("fullest()", desks[i].fullest(), due[i]);
        }
        Checks.same("of eleven empty boxes", bow().fullest(), 0);
        Checks.same("of boxes of 1, 3 and 0", Desks.eight().fullest(), 1);
        Checks.same("of two boxes of 1", Desks.ofPairs(0, 6, 2, 5, 4, 4, 5, 2, 6, 0).fullest(), 0);
        Checks.same("of boxes of 0 and 1", Desks.ofPairs(2, 5, 4, 4, 5, 2, 6, 0).fullest(), 1);
    }

    private static void areaOfPoints() {
        Checks.sentence("Promise 29", "the sum over all points of their gain less that of the point before (0 for the first one) times"
            + " their joy.");
        Checks.same("without points", Desks.none().area(), 0);
        Checks.same("of nothing", new ParetoDesk().area(), 0);
        Checks.same("of a gain alone", Desks.ofPairs(99, 0).area(), 0);
        Checks.same("of a joy alone", Desks.ofPairs(0, 99).area(), 0);
        Checks.same("of one point", Desks.ofPairs(3, 4).area(), 12);
        Checks.same("of two points", Desks.ofPairs(3, 4, 5, 1).area(), 12 + 2);
        Checks.same("of a line", Desks.line().area(), 63 * 62 / 2);
        Checks.same("of the greatest sums", Desks.twelve(99, 99).area(), 1188 * 1188);
    }

    private static void kneeOfPoints() {
        Checks.sentence("Promise 30", "Returns the point, neither the first nor the last one, of the greatest value by the weights of the"
            + " first step of the search, if this is greater than that of the first point, the lowest one of several; NONE if there"
            + " is none.");
        int[] due = {-1, -1, -1, -1};
        ParetoDesk[] desks = ofAllSizes();
        for (int i = 0; i < due.length; i++) {
            Checks.same("knee()", desks[i].knee(), due[i]);
        }
        Checks.same("on the line", Desks.ofPairs(0, 99, 50, 49, 99, 0).knee(), -1);
        Checks.same("below the line", Desks.ofPairs(0, 99, 50, 48, 99, 0).knee(), -1);
        Checks.same("above the line", Desks.ofPairs(0, 99, 50, 50, 99, 0).knee(), 1);
        Checks.same("the lowest one of two", Desks.ofPairs(0, 10, 4, 9, 9, 4, 10, 0).knee(), 1);
        Checks.same("the second one of two", Desks.ofPairs(0, 10, 4, 8, 9, 4, 10, 0).knee(), 2);
        Checks.same("the greatest of a bow", bow().knee(), 5);
    }

    private static void gapOfPoints() {
        Checks.sentence("Promise 31", "Returns the point that has the greatest product of what its gain and its joy differ from those of"
            + " the next point, the lowest one of several; NONE if there are fewer than two points.");
        int[] due = {-1, -1, 0, 0};
        ParetoDesk[] desks = ofAllSizes();
        for (int i = 0; i < due.length; i++) {
            Checks.same("gap()", desks[i].gap(), due[i]);
        }
        Checks.same("the least product", Desks.ofPairs(0, 1, 1, 0).gap(), 0);
        Checks.same("of two like products", Desks.ofPairs(2, 9, 4, 4, 9, 2).gap(), 0);
        Checks.same("the last one", Desks.ofPairs(2, 9, 4, 5, 9, 1).gap(), 1);
        Checks.same("a greater product of a less sum", Desks.ofPairs(0, 20, 1, 10, 5, 6).gap(), 1);
        Checks.same("the middle one of four", Desks.ofPairs(0, 12, 2, 11, 3, 5, 4, 4).gap(), 1);
    }

    private static void coreOfPoints() {
        Checks.sentence("Promise 32", "Returns the set of the items that the choices of all points have; 0 without points.");
        Checks.same("without points", Desks.none().core(), 0);
        Checks.same("of no items", new ParetoDesk().core(), 0);
        Checks.same("of one point", Desks.ofPairs(1, 1, 2, 2).core(), 2);
        Checks.same("of twelve items", Desks.twelve(1, 1).core(), 4095);
        Checks.same("of twelve items that are nothing", Desks.twelve(0, 0).core(), 0);
        Checks.same("of a line", Desks.line().core(), 0);
        ParetoDesk heavy = Desks.heavyFirst();
        heavy.never(1, true);
        heavy.never(3, true);
        Checks.same("of a choice that is not the lightest", heavy.core(), 1);
        ParetoDesk common = Checks.deskOf("capacity 9 limit 2; item weight 1 gain 5 joy 0; item weight 1 gain 9 joy 9;"
            + "item weight 1 gain 0 joy 5;");
        Checks.same("of two points with one item", common.core(), 2);
    }

    private static void unusedOfPoints() {
        Checks.sentence("Promise 33", "Returns the set of the items that the choice of no point has.");
        Checks.same("without points", Desks.none().unused(), 3);
        Checks.same("of no items", new ParetoDesk().unused(), 0);
        Checks.same("of one point", Desks.ofPairs(1, 1, 2, 2, 1, 0).unused(), 5);
        Checks.same("of twelve items", Desks.twelve(1, 1).unused(), 0);
        Checks.same("of twelve items that are nothing", Desks.twelve(0, 0).unused(), 4095);
        Checks.same("of a line", Desks.line().unused(), 0);
        Checks.same("of the lightest, which are not the choices", Desks.heavyFirst().unused(), 12);
        // Item 2 has the pair of item 0, but not the least mask.
        Checks.same("of an item with a point's pair", Desks.ofPairs(1, 2, 2, 1, 1, 2).unused(), 4);
    }
}
