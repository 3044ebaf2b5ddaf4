import java.nio.charset.StandardCharsets;

/** What all tests share: counting wrong answers, catching what is due, and putting a text into a desk. */
final class Checks {
    interface Call {
        void run();
    }

    private static int wrong = 0;
    private static int made = 0;
    private static String sentence = "";
    private static boolean together = false;

    private Checks() {
    }

    static void same(String what, long got, long due) {
        made++;
        if (got != due) {
            tell(what + " answered " + got + ", due is " + due);
        }
    }

    static void same(String what, boolean got, boolean due) {
        same(what, got ? 1 : 0, due ? 1 : 0);
    }

    static void sameDouble(String what, double got, double due) {
        made++;
        if (got != due) {
            tell(what + " answered " + got + ", due is " + due);
        }
    }

    static void sameText(String what, String got, String due) {
        made++;
        if (!due.equals(got)) {
            tell(what + " answered <" + got + ">, due is <" + due + ">");
        }
    }

    static void outOfBounds(String what, Call call) {
        throwing(what, IndexOutOfBoundsException.class, call);
    }

    static void badArgument(String what, Call call) {
        throwing(what, IllegalArgumentException.class, call);
    }

    static void badState(String what, Call call) {
        throwing(what, IllegalStateException.class, call);
    }

    static void throwing(String what, Class<?> due, Call call) {
        made++;
        try {
            call.run();
        } catch (RuntimeException e) {
            if (e.getClass() != due) {
                tell(what + " threw " + e.getClass().getName() + ", due is " + due.getName());
            }
            return;
        }
        tell(what + " threw nothing, due is " + due.getName());
    }

    private static void tell(String line) {
        wrong++;
        if (wrong <= 40) {
            System.out.println(sentence + line);
        }
    }

    /** Says which sentence of the document the next checks look at; it must stand in that part. */
    static void sentence(String part, String words) {
        made++;
        sentence = part + ", '" + words + "': ";
        if (!Document.says(part, words)) {
            tell("the document does not say so");
        }
        Document.name(part, words);
    }

    /** The tests that run from now on in this machine end together, with the one that runs them. */
    static void runTogether(boolean on) {
        together = on;
        sentence = "";
    }

    static boolean anyWrong() {
        return wrong > 0;
    }

    static void end(String name) {
        if (together) {
            return;
        }
        System.out.println(name + ": " + made + " checks, " + wrong + " wrong");
        if (wrong > 0 || made == 0) {
            System.exit(1);
        }
    }

    /** Puts a text into an empty input buffer: each char is one byte. */
    static void give(ParetoDesk desk, String text) {
        byte[] bytes = text.getBytes(StandardCharsets.ISO_8859_1);
        for (int at = 0; at < bytes.length; at += 20) {
            int[] words = new int[5];
            for (int i = 0; i < 20; i++) {
                int sign = at + i < bytes.length ? bytes[at + i] & 255 : ' ';
                words[i / 4] = words[i / 4] << 8 | sign;
            }
            desk.append(words[0], words[1], words[2], words[3], words[4]);
        }
        desk.truncate(bytes.length);
    }

    static int load(ParetoDesk desk, String text) {
        give(desk, text);
        return desk.load();
    }

    static ParetoDesk deskOf(String text) {
        ParetoDesk desk = new ParetoDesk();
        load(desk, text);
        return desk;
    }

    static String output(ParetoDesk desk, int length) {
        StringBuilder text = new StringBuilder();
        for (int i = 0; i < length; i++) {
            text.append((char) desk.outputByte(i));
        }
        return text.toString();
    }

    static String frontier(ParetoDesk desk) {
        return output(desk, desk.writeFrontier());
    }

    /** All that undo() brings back, as one line. */
    static String state(ParetoDesk desk) {
        StringBuilder text = new StringBuilder();
        for (int what = 0; what <= 7; what++) {
            text.append(desk.property(what)).append(' ');
        }
        for (int item = 0; item < desk.property(0); item++) {
            text.append('|');
            for (int what = 0; what <= 4; what++) {
                text.append(desk.item(item, what)).append(' ');
            }
        }
        return text.toString();
    }
}
