import java.lang.reflect.InvocationTargetException;
import java.lang.reflect.Method;
import java.util.ArrayList;
import java.util.Comparator;
import java.util.List;
import java.util.Random;

/** Long runs of random calls, each asked of a desk and of the reference: same answers, same exceptions. */
public final class RandomRunsTest {
    private static final int RUNS = 400;
    private static final int CALLS = 510;

    private final Random random;
    private final ParetoDesk desk = new ParetoDesk();
    private final Reference reference = new Reference();
    private final List<Method> methods = new ArrayList<>();
    private final int most;
    private final int greatest;

    private RandomRunsTest(int run) {
        random = new Random(run);
        most = run % 20 == 0 ? 12 : 1 + run % 8;
        greatest = run % 3 == 0 ? 99 : run % 3 == 1 ? 12 : 3;
        for (Method method : ParetoDesk.class.getDeclaredMethods()) {
            if (java.lang.reflect.Modifier.isPublic(method.getModifiers())) {
                methods.add(method);
            }
        }
        methods.sort(Comparator.comparing(Method::getName));
    }

    public static void main(String[] args) throws Exception {
        for (int run = 0; run < RUNS && !Checks.anyWrong(); run++) {
            new RandomRunsTest(run).run(run);
        }
        Checks.end("RandomRunsTest");
    }

    private void run(int run) throws Exception {
        // The texts and first items take some of the 512 calls.
        int left = CALLS;
        if (run % 2 == 0) {
            left -= loadText();
        }
        int items = random.nextInt(most + 1);
        while (desk.property(0) < items && left > 0) {
            ask("addItem", value(), value(), value());
            left--;
        }
        while (left > 0 && !Checks.anyWrong()) {
            left -= turn();
        }
        compareStates(run);
    }

    private int turn() throws Exception {
        int kind = random.nextInt(60);
        if (kind == 0) {
            return loadText();
        }
        Method method = methods.get(random.nextInt(methods.size()));
        String name = method.getName();
        // Too many of these would leave nothing to look at.
        boolean rare = name.equals("load") || name.equals("dropItem") && random.nextInt(3) > 0
            || name.equals("restore") && random.nextInt(3) > 0 || name.equals("must") && random.nextInt(3) > 0;
        if (rare || name.equals("addItem") && desk.property(0) >= most) {
            return 0;
        }
        ask(name, argumentsOf(method));
        return 1;
    }

    private Object[] argumentsOf(Method method) {
        String name = method.getName();
        switch (name) {
            case "refusal": case "pointOf": case "beatenBy": case "nearTo": case "layerOf": case "choose":
                return new Object[] {set()};
            case "sum": return new Object[] {set(), what(2)};
            case "property": return new Object[] {what(7)};
            case "item": return new Object[] {item(), what(4)};
            case "point": return new Object[] {point(), what(6)};
            case "lightest": return new Object[] {point()};
            case "apart": return new Object[] {point(), point()};
            case "box": return new Object[] {random.nextInt(6) - 1, what(4)};
            case "vertex": case "layerSize": return new Object[] {random.nextInt(9) - 1};
            case "step": return new Object[] {random.nextInt(9) - 1, what(4)};
            case "best": case "nearest": case "climb": case "chooseBest": case "improve":
                return new Object[] {weight(), weight()};
            case "beating": case "capacityFor": return new Object[] {total(), total()};
            case "joyFor": case "gainFor": return new Object[] {total()};
            case "lostWithout": case "worth": case "dropItem": case "take": case "leave": return new Object[] {item()};
            case "pointsWith": case "setCapacity": return new Object[] {capacity()};
            case "setLimit": return new Object[] {random.nextInt(4) == 0 ? random.nextInt(15) - 1 : 3 + random.nextInt(10)};
            case "addItem": return new Object[] {value(), value(), value()};
            case "setItem": return new Object[] {item(), what(2), value()};
            case "bar": case "need": return new Object[] {item(), item(), random.nextBoolean()};
            case "must": case "never": return new Object[] {item(), random.nextInt(3) == 0};
            case "keep": case "restore": return new Object[] {random.nextInt(8) == 0 ? random.nextInt(4) - 1 : random.nextInt(2)};
            case "outputByte": return new Object[] {random.nextInt(90) - 1};
            case "truncate": return new Object[] {random.nextInt(60) - 1};
            case "append": return new Object[] {random.nextInt(), random.nextInt(), 0x20202020, 0x6974656D, -1};
            default: return new Object[] {};
        }
    }

    private int wild() {
        int[] wild = {-1, -2, Integer.MIN_VALUE, Integer.MAX_VALUE, 12, 13, 100, 1000, 4096};
        return wild[random.nextInt(wild.length)];
    }

    private boolean strange() {
        return random.nextInt(25) == 0;
    }

    private int set() {
        return strange() ? wild() : random.nextInt((1 << desk.property(0)) + (strange() ? 1 : 0));
    }

    private int what(int last) {
        return strange() ? wild() : random.nextInt(last + (strange() ? 2 : 1));
    }

    private int item() {
        return strange() || desk.property(0) == 0 ? wild() : random.nextInt(desk.property(0) + (strange() ? 1 : 0));
    }

    /** Asks the reference alone: the desk's point() shall be the first call behind a change, too. */
    private int point() {
        int points = reference.points();
        return strange() || points == 0 ? wild() : random.nextInt(points + (strange() ? 1 : 0));
    }

    private int weight() {
        return strange() ? wild() : random.nextInt(random.nextBoolean() ? 4 : 100);
    }

    private int total() {
        return strange() ? wild() : random.nextInt(greatest * Math.max(1, most) / 2 + 2) - 1;
    }

    private int capacity() {
        return strange() ? wild() : random.nextInt(4) == 0 ? random.nextInt(1001) : greatest * random.nextInt(most + 2) / 2;
    }

    private int value() {
        return strange() ? wild() : random.nextInt(greatest + 1);
    }

    /** Answers how many calls it took. */
    private int loadText() throws Exception {
        String text = new TextMaker(random, most, greatest).make();
        ask("truncate", 0);
        int calls = 1;
        while (text.length() % 20 != 0) {
            text = text + " ";
        }
        for (int at = 0; at < text.length() && at < 600; at += 20) {
            Object[] words = new Object[5];
            for (int i = 0; i < 5; i++) {
                int word = 0;
                for (int j = 0; j < 4; j++) {
                    word = word << 8 | text.charAt(at + 4 * i + j);
                }
                words[i] = word;
            }
            ask("append", words);
            calls++;
        }
        ask("load");
        ask("errorCode");
        ask("errorPosition");
        return calls + 3;
    }

    private void compareStates(int run) throws Exception {
        for (int what = 0; what <= 7; what++) {
            ask("property", what);
        }
        ask("undoCount");
        if (Checks.anyWrong()) {
            System.out.println("in run " + run);
        }
    }

    private void ask(String name, Object... arguments) throws Exception {
        Class<?>[] kinds = new Class<?>[arguments.length];
        for (int i = 0; i < kinds.length; i++) {
            kinds[i] = arguments[i] instanceof Boolean ? boolean.class : int.class;
        }
        Checks.sameText(name + List.of(arguments), answer(desk, name, kinds, arguments),
            answer(reference, name, kinds, arguments));
    }

    private static String answer(Object object, String name, Class<?>[] kinds, Object[] arguments) throws Exception {
        Method method = object.getClass().getDeclaredMethod(name, kinds);
        method.setAccessible(true);
        try {
            return String.valueOf(method.invoke(object, arguments));
        } catch (InvocationTargetException e) {
            return "throws " + e.getCause().getClass().getName();
        }
    }
}
