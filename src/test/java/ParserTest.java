import java.util.Random;

/** Promises 4 to 6 and section 1: each code at each place where it can come, and where a text has none. */
public final class ParserTest {
    private static final String HEAD = "capacity 9 limit 9;";
    private static final String ITEM = "item weight 1 gain 2 joy 3;";

    public static void main(String[] args) {
        rightTexts();
        framesOfTheText();
        items();
        pairs();
        singles();
        bytesAndNumbers();
        randomTexts();
        Checks.end("ParserTest");
    }

    private static void right(String text, int items) {
        ParetoDesk desk = new ParetoDesk();
        Checks.same("load() of " + text, Checks.load(desk, text), items);
        Checks.same("errorCode() of " + text, desk.errorCode(), 0);
        Checks.same("errorPosition() of " + text, desk.errorPosition(), -1);
        Checks.same("undoCount() of " + text, desk.undoCount(), 1);
    }

    /** The mark ^ stands ahead of the token that has the error. */
    private static void wrong(int code, String marked) {
        int position = marked.indexOf('^');
        String text = marked.substring(0, position) + marked.substring(position + 1);
        ParetoDesk desk = new ParetoDesk();
        desk.addItem(1, 1, 1);
        String before = Checks.state(desk);
        Checks.same("load() of " + marked, Checks.load(desk, text), -4);
        Checks.same("errorCode() of " + marked, desk.errorCode(), code);
        Checks.same("errorPosition() of " + marked, desk.errorPosition(), position);
        Checks.same("undoCount() of " + marked, desk.undoCount(), 1);
        Checks.sameText("the state behind " + marked, Checks.state(desk), before);
        Checks.badArgument("the buffer behind " + marked, () -> desk.truncate(1));
    }

    private static void rightTexts() {
        right(HEAD, 0);
        right("capacity 0 limit 0;", 0);
        right("capacity 999 limit 12;", 0);
        right("\n\n  capacity\n5\n\nlimit 5 ;\n ", 0);
        right("capacity5limit5;item weight0gain0joy0;", 1);
        right("capacity 9 limit 9;item weight 99 gain 99 joy 99;", 1);
        right(HEAD + ITEM.repeat(12), 12);
        right(HEAD + ITEM + ITEM + "bar 0 1;need 0 1;need 1 0;must 0;never 0;must 1;never 1;" + ITEM + "bar 2 0;bar 1 2;", 3);
        right("capacity 00000000000000000000000000000007 limit 012;", 0);
        ParetoDesk desk = Checks.deskOf("capacity 00000000000000000000000000000007 limit 012;" + ITEM + "bar 0 0;");
        Checks.same("load of leading zeros and an error", desk.property(1), 20);
        String long600 = HEAD + " ".repeat(600 - HEAD.length());
        right(long600, 0);
        right(" ".repeat(600 - HEAD.length()) + HEAD, 0);
    }

    private static void framesOfTheText() {
        wrong(1, "^");
        wrong(1, "   \n ^");
        wrong(1, "^;");
        wrong(1, "^limit 5 capacity 5;");
        wrong(1, "^item weight 1 gain 1 joy 1;");
        wrong(1, "capacity ^limit 5;");
        wrong(1, "capacity ^");
        wrong(1, "capacity 5^");
        wrong(1, "capacity 5 ^;");
        wrong(1, "capacity 5 ^6 limit 5;");
        wrong(1, "capacity 5 limit^");
        wrong(1, "capacity 5 limit 5^");
        wrong(1, "capacity 5 limit 5 ^5;");
        wrong(1, "capacity 5 limit 5 ^, item");
        wrong(2, "capacity ^1000 limit 5;");
        wrong(2, "capacity ^99999999999999999999999 limit 5;");
        wrong(2, "capacity ^4294967297 limit 5;");
        wrong(2, "capacity 9 limit ^13;");
        wrong(1, HEAD + "^capacity 9 limit 9;");
        wrong(1, HEAD + "^limit 9;");
        wrong(1, HEAD + "^;");
        wrong(1, HEAD + "^5;");
        wrong(1, HEAD + "^foo;");
        wrong(1, "^capacit 5 limit 5;");
        wrong(1, "^capacitys 5 limit 5;");
        wrong(1, "^capacityz 5 limit 5;");
        wrong(1, "^acapacity 5 limit 5;");
        wrong(1, "capacity 5 ^limita 5;");
        wrong(1, HEAD + "^itemz weight 1 gain 1 joy 1;");
    }

    private static void items() {
        wrong(1, HEAD + "item ^gain 1 joy 1;");
        wrong(1, HEAD + "item weight ^gain 1 joy 1;");
        wrong(1, HEAD + "item weight 1 ^joy 1;");
        wrong(1, HEAD + "item weight 1 gain ^joy;");
        wrong(1, HEAD + "item weight 1 gain 1 joy ^;");
        wrong(1, HEAD + "item weight 1 gain 1 joy 1 ^item");
        wrong(1, HEAD + "item weight 1 gain 1 joy 1^");
        wrong(1, HEAD + "item^");
        wrong(1, HEAD + "items".replace("items", "^items") + " weight 1 gain 1 joy 1;");
        wrong(2, HEAD + "item weight ^100 gain 1 joy 1;");
        wrong(2, HEAD + "item weight 1 gain ^100 joy 1;");
        wrong(2, HEAD + "item weight 1 gain 1 joy ^100;");
        wrong(1, HEAD + "item weight ^-1 gain 1 joy 1;");
        wrong(4, HEAD + ITEM.repeat(12) + "^item weight 1 gain 1 joy 1;");
        wrong(4, HEAD + ITEM.repeat(12) + "bar 0 1; ^item");
        wrong(1, HEAD + ITEM.repeat(12) + "^items");
    }

    private static void pairs() {
        String three = HEAD + ITEM + ITEM + ITEM;
        for (String word : new String[] {"bar", "need"}) {
            wrong(1, three + word + "^;");
            wrong(1, three + word + " 0^;");
            wrong(1, three + word + " 0 ^item;");
            wrong(1, three + word + " 0 1 ^2;");
            wrong(1, three + word + " 0 1^");
            wrong(2, three + word + " ^3 3;");
            wrong(2, three + word + " 0 ^3;");
            wrong(2, HEAD + word + " ^0 0;");
            wrong(2, HEAD + ITEM + word + " 0 ^1;" + ITEM);
            wrong(3, three + word + " 2 ^2;");
            wrong(3, three + word + " 0 1; " + word + " 0 ^1;");
            wrong(3, three + word + " 0 1; " + word + " 0 2; " + word + " 0 ^1 foo");
        }
        wrong(3, three + "bar 0 1; bar 1 ^0;");
        wrong(3, three + "need 0 1; need 1 0; need 1 ^0;");
        right(three + "bar 0 1; need 0 1; bar 0 2; need 1 0;", 3);
    }

    private static void singles() {
        String two = HEAD + ITEM + ITEM;
        for (String word : new String[] {"must", "never"}) {
            wrong(1, two + word + "^;");
            wrong(1, two + word + " 0 ^1;");
            wrong(1, two + word + " 0^");
            wrong(2, two + word + " ^2;");
            wrong(2, HEAD + word + " ^0;");
            wrong(3, two + word + " 0; " + word + " 1; " + word + " ^0;");
        }
        right(two + "must 0; never 0; never 1; must 1;", 2);
        ParetoDesk desk = Checks.deskOf(two + "must 1; never 0; need 1 0; bar 1 0;");
        Checks.sameText("what the rules are", Checks.state(desk), "2 9 9 1 1 2 1 0 |1 2 3 2 0 |1 2 3 1 1 ");
    }

    private static void bytesAndNumbers() {
        wrong(1, "^\tcapacity 5 limit 5;");
        wrong(1, "^\u0000");
        wrong(1, "^\u00ff\u00ff");
        wrong(1, "^Capacity 5 limit 5;");
        wrong(1, "capacity 5 limit 5;^\r\n");
        wrong(1, "capacity ^+5 limit 5;");
        wrong(1, "capacity 5^.0 limit 5;");
        wrong(1, HEAD + "^\u00e1;");
        wrong(1, HEAD + " ".repeat(580 - HEAD.length()) + "\n                  ^x");
    }

    private static void randomTexts() {
        int[] told = new int[5];
        for (int run = 0; run < 4000; run++) {
            Random random = new Random(run);
            String text = new TextMaker(random, 1 + run % 15, 99).make();
            ReferenceParser due = new ReferenceParser(text);
            Reference.State state = due.parse();
            ParetoDesk desk = new ParetoDesk();
            Checks.same("load() of " + text, Checks.load(desk, text), state == null ? -4 : state.items.size());
            Checks.same("errorCode() of " + text, desk.errorCode(), due.code);
            Checks.same("errorPosition() of " + text, desk.errorPosition(), due.position);
            told[due.code]++;
        }
        for (int code = 0; code <= 4; code++) {
            Checks.same("random texts of code " + code + " come", told[code] > 0, true);
        }
        System.out.println("random texts by code: " + java.util.Arrays.toString(told));
    }
}
