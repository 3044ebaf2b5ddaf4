import java.lang.management.ManagementFactory;

/** All calls of a run live in one room: what the constructor makes is bounded, and no call makes more. */
public final class RoomTest {
    private static final com.sun.management.ThreadMXBean THREADS =
        (com.sun.management.ThreadMXBean) ManagementFactory.getThreadMXBean();
    private static final String TEXT = "capacity 900 limit 12;" + texts();

    private static long kept;

    public static void main(String[] args) {
        // The first time the classes are loaded, which takes room of its own.
        spent(true);
        long bare = spent(false);
        long called = spent(true);
        System.out.println("bytes of two desks: " + bare + ", with their calls: " + called);
        Checks.same("a desk takes less than 100,000 elements of four bytes", bare < 2 * 400_000L, true);
        Checks.same("the calls take no room", called - bare < 10_000, true);
        Checks.end("RoomTest");
    }

    private static String texts() {
        StringBuilder text = new StringBuilder();
        for (int i = 0; i < 12; i++) {
            text.append("item weight 9 gain ").append(1 + i * i % 90).append(" joy ").append(99 - i * 7).append(';');
        }
        return text.toString();
    }

    private static long spent(boolean calls) {
        int[] words = words();
        long before = THREADS.getThreadAllocatedBytes(Thread.currentThread().getId());
        ParetoDesk first = new ParetoDesk();
        ParetoDesk second = new ParetoDesk();
        if (calls) {
            use(first, words);
            use(second, words);
        }
        return THREADS.getThreadAllocatedBytes(Thread.currentThread().getId()) - before;
    }

    private static int[] words() {
        int[] words = new int[(TEXT.length() + 19) / 20 * 5];
        for (int i = 0; i < words.length * 4; i++) {
            words[i / 4] = words[i / 4] << 8 | (i < TEXT.length() ? TEXT.charAt(i) : ' ');
        }
        return words;
    }

    private static void use(ParetoDesk desk, int[] words) {
        for (int round = 0; round < 6; round++) {
            for (int i = 0; i < words.length; i += 5) {
                desk.append(words[i], words[i + 1], words[i + 2], words[i + 3], words[i + 4]);
            }
            kept += desk.load();
            for (int i = 0; i < 3; i++) {
                desk.setItem(i, 1, 50 + i);
                kept += ask(desk);
            }
            desk.undo();
        }
    }

    private static long ask(ParetoDesk desk) {
        desk.keep(1);
        long sum = desk.allowed() + desk.points() + desk.vertices() + desk.supported() + desk.steps() + desk.layers();
        sum += desk.layerOf(5) + desk.climb(1, 1) + desk.improve(2, 1) + desk.worth(3) + desk.lostWithout(3);
        sum += desk.pointsWith(50) + desk.capacityFor(90, 90) + desk.writeFrontier() + desk.writeChoices();
        sum += desk.knee() + desk.gap() + desk.area() + desk.core() + desk.unused() + desk.fullest() + desk.nearTo(7);
        sum += desk.best(1, 2) + desk.nearest(1, 2) + desk.chooseBest(1, 2) + desk.restore(1) + desk.undo();
        return sum;
    }
}
