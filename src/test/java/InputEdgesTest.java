/** The boundary cases of section 1 and of promises 1 to 6: one method for each sentence of the document. */
public final class InputEdgesTest {
    private static final String HEAD = "capacity 9 limit 9;";
    private static final String ITEM = "item weight 1 gain 2 joy 3;";
    private static final int BLANKS = 0x20202020;

    public static void main(String[] args) {
        newDesk();
        twoDesksAreApart();
        bufferOf600Bytes();
        bytesOfAParameter();
        parametersWrapRound();
        lengthsOfTruncate();
        cutToItsFirstBytes();
        loadEmptiesTheBuffer();
        loadReplacesEverything();
        loadLeavesSlotsAndOutput();
        loadAnswersItems();
        loadWithAnErrorChangesNothing();
        errorCodeOfTheLastLoad();
        errorPositionOfTheLastLoad();
        emptyText();
        oneOrMoreStatements();
        semicolonBehindEachStatement();
        lettersOfAWord();
        digitsOfANumber();
        numbersOfAnyLength();
        otherBytesAreSymbols();
        blanksOnlySeparate();
        capacityAndLimit();
        firstStatementAndOnlyThere();
        numbersOfAnItem();
        twelveItems();
        itemsToldAhead();
        wordsOfTheStatements();
        firstTokenWithAnError();
        smallestCodeCounts();
        positionOfTheFirstByte();
        samePair();
        sameSingle();
        thirteenthItem();
        Checks.end("InputEdgesTest");
    }

    private static void right(String text, int items) {
        ParetoDesk desk = new ParetoDesk();
        Checks.same("load() of <" + text + ">", Checks.load(desk, text), items);
        Checks.same("errorCode() of <" + text + ">", desk.errorCode(), 0);
        Checks.same("errorPosition() of <" + text + ">", desk.errorPosition(), -1);
    }

    /** The mark ^ stands ahead of the token that has the error. */
    private static void wrong(int code, String marked) {
        int position = marked.indexOf('^');
        String text = marked.substring(0, position) + marked.substring(position + 1);
        ParetoDesk desk = new ParetoDesk();
        Checks.same("load() of <" + marked + ">", Checks.load(desk, text), -4);
        Checks.same("errorCode() of <" + marked + ">", desk.errorCode(), code);
        Checks.same("errorPosition() of <" + marked + ">", desk.errorPosition(), position);
    }

    private static int appendBlanks(ParetoDesk desk) {
        return desk.append(BLANKS, BLANKS, BLANKS, BLANKS, BLANKS);
    }

    private static ParetoDesk deskWithLength(int length) {
        ParetoDesk desk = new ParetoDesk();
        for (int i = 0; i < 30; i++) {
            appendBlanks(desk);
        }
        desk.truncate(length);
        return desk;
    }

    // ---- promises 1 to 3 ----

    private static void newDesk() {
        Checks.sentence("Promise 1", "Creates a desk as described in the section on exceptions, with empty buffers and slots.");
        ParetoDesk desk = new ParetoDesk();
        Checks.sameText("the desk", Checks.state(desk), "0 20 12 0 0 0 0 0 ");
        Checks.same("undoCount()", desk.undoCount(), 0);
        Checks.badState("undo()", () -> desk.undo());
        Checks.outOfBounds("outputByte(0)", () -> desk.outputByte(0));
        Checks.badArgument("truncate(1)", () -> desk.truncate(1));
        Checks.badState("restore(0)", () -> desk.restore(0));
        Checks.badState("restore(1)", () -> desk.restore(1));
        Checks.same("append()", appendBlanks(desk), 20);
        Checks.sentence("EXCEPTIONS", "Before the first successful load() the capacity is 20, the limit is 12, and there are no"
            + " items and rules.");
        Checks.same("load() of blanks", desk.load(), -4);
        Checks.sameText("the desk behind a load() with an error", Checks.state(desk), "0 20 12 0 0 0 0 0 ");
        Checks.sentence("EXCEPTIONS", "The choice at hand is a set; it is empty at first, and behind load().");
        Checks.same("property(7) at first", new ParetoDesk().property(7), 0);
    }

    private static void twoDesksAreApart() {
        Checks.sentence("Promise 1", "Creates a desk");
        ParetoDesk first = Checks.deskOf(HEAD + ITEM + "must 0;");
        first.take(0);
        first.keep(0);
        first.writeFrontier();
        appendBlanks(first);
        ParetoDesk second = new ParetoDesk();
        Checks.sameText("a second desk", Checks.state(second), "0 20 12 0 0 0 0 0 ");
        Checks.same("a second desk's undoCount()", second.undoCount(), 0);
        Checks.badState("a second desk's restore(0)", () -> second.restore(0));
        Checks.outOfBounds("a second desk's outputByte(0)", () -> second.outputByte(0));
        Checks.badArgument("a second desk's truncate(1)", () -> second.truncate(1));
        second.addItem(7, 7, 7);
        Checks.same("points of the second desk", second.point(0, 0), 7);
        Checks.sameText("the first desk", Checks.state(first), "1 9 9 0 0 1 0 1 |1 2 3 0 0 ");
        Checks.same("points of the first desk", first.point(0, 0), 2);
    }

    private static void bufferOf600Bytes() {
        Checks.sentence("1. INPUT", "The input buffer holds at most 600 bytes.");
        ParetoDesk desk = new ParetoDesk();
        for (int i = 1; i <= 30; i++) {
            Checks.same("append() number " + i, appendBlanks(desk), 20 * i);
        }
        Checks.sentence("Promise 2", "Throws `IllegalStateException` if the buffer would hold more than 600 bytes");
        Checks.badState("append() behind 600 bytes", () -> appendBlanks(desk));
        Checks.badArgument("truncate(601) behind it", () -> desk.truncate(601));
        desk.truncate(600);
        for (int length = 599; length > 580; length -= 6) {
            desk.truncate(length);
            Checks.badState("append() behind " + length + " bytes", () -> appendBlanks(desk));
            int one = length + 1;
            Checks.badArgument("truncate() above " + length, () -> desk.truncate(one));
        }
        Checks.badState("append() behind 581 bytes", () -> appendBlanks(deskWithLength(581)));
        Checks.same("append() behind 580 bytes", appendBlanks(deskWithLength(580)), 600);
        Checks.same("append() behind 579 bytes", appendBlanks(deskWithLength(579)), 599);
        // A full text is read to its last byte.
        right(HEAD + " ".repeat(600 - HEAD.length()), 0);
        right(" ".repeat(600 - HEAD.length()) + HEAD, 0);
        wrong(1, HEAD + " ".repeat(599 - HEAD.length()) + "^x");
        wrong(1, HEAD + ITEM + " ".repeat(600 - HEAD.length() - ITEM.length() - 6) + "must 0^");
    }

    private static void bytesOfAParameter() {
        Checks.sentence("Promise 2", "the four bytes of each parameter, most significant byte first.");
        // "capa" "city" " 1 l" "imit" " 2; "
        ParetoDesk desk = new ParetoDesk();
        Checks.same("append()", desk.append(0x63617061, 0x63697479, 0x2031206C, 0x696D6974, 0x20323B20), 20);
        Checks.same("load()", desk.load(), 0);
        Checks.same("the capacity", desk.property(1), 1);
        Checks.same("the limit", desk.property(2), 2);
        int[] bytes = {255, 128, 127, 1};
        for (int place = 0; place < 20; place++) {
            int[] words = {BLANKS, BLANKS, BLANKS, BLANKS, BLANKS};
            int shift = 8 * (3 - place % 4);
            words[place / 4] = BLANKS & ~(255 << shift) | bytes[place % 4] << shift;
            ParetoDesk other = new ParetoDesk();
            other.append(words[0], words[1], words[2], words[3], words[4]);
            Checks.same("load() of an odd byte", other.load(), -4);
            Checks.same("its position", other.errorPosition(), place);
        }
    }

    private static void parametersWrapRound() {
        Checks.sentence("Promise 2", "int append(int a, int b, int c, int d, int e)");
        ParetoDesk desk = new ParetoDesk();
        int least = Integer.MIN_VALUE;
        Checks.same("append() of least ints", desk.append(least, least, least, least, least), 20);
        int most = Integer.MAX_VALUE;
        Checks.same("append() of greatest ints", desk.append(most, most, -1, 0, most), 40);
        Checks.same("load()", desk.load(), -4);
        Checks.same("errorCode()", desk.errorCode(), 1);
        Checks.same("errorPosition()", desk.errorPosition(), 0);
    }

    private static void lengthsOfTruncate() {
        Checks.sentence("Promise 3", "`length`: the new length, 0 to the current length");
        ParetoDesk desk = deskWithLength(40);
        desk.truncate(40);
        desk.truncate(39);
        desk.truncate(1);
        desk.truncate(0);
        desk.truncate(0);
        Checks.same("append() behind truncate(0)", appendBlanks(desk), 20);
        new ParetoDesk().truncate(0);
        Checks.sentence("Promise 3", "Throws `IllegalArgumentException` if length is out of range");
        for (int length : new int[] {21, -1, 600, Integer.MIN_VALUE, Integer.MAX_VALUE}) {
            Checks.badArgument("truncate(" + length + ")", () -> desk.truncate(length));
        }
        Checks.same("append() behind it", appendBlanks(desk), 40);
        ParetoDesk empty = new ParetoDesk();
        Checks.badArgument("truncate(1) of an empty buffer", () -> empty.truncate(1));
        Checks.badArgument("truncate(-1) of an empty buffer", () -> empty.truncate(-1));
        ParetoDesk full = deskWithLength(600);
        Checks.badArgument("truncate(601) of a full buffer", () -> full.truncate(601));
        full.truncate(600);
        Checks.badState("append() behind truncate(600)", () -> appendBlanks(full));
    }

    private static void cutToItsFirstBytes() {
        Checks.sentence("Promise 3", "Cuts the input buffer to its first length bytes.");
        ParetoDesk desk = new ParetoDesk();
        Checks.give(desk, HEAD + ITEM + "must 0;");
        desk.truncate(HEAD.length() + ITEM.length());
        Checks.same("load() of a cut text", desk.load(), 1);
        Checks.same("property(5)", desk.property(5), 0);
        Checks.give(desk, HEAD + "xxxx");
        desk.truncate(HEAD.length() - 1);
        Checks.same("load() of a text without its last byte", desk.load(), -4);
        Checks.same("errorPosition()", desk.errorPosition(), HEAD.length() - 1);
        // What was cut off does not come back.
        Checks.give(desk, HEAD + ITEM);
        desk.truncate(HEAD.length());
        desk.append(BLANKS, BLANKS, BLANKS, BLANKS, BLANKS);
        Checks.same("load() of new bytes behind a cut", desk.load(), 0);
    }

    // ---- promises 4 to 6 ----

    private static void loadEmptiesTheBuffer() {
        Checks.sentence("Promise 4", "Parses the input buffer and empties it.");
        ParetoDesk desk = Checks.deskOf(HEAD);
        Checks.badArgument("truncate(1) behind load()", () -> desk.truncate(1));
        Checks.same("append() behind load()", appendBlanks(desk), 20);
        Checks.same("load() with an error", desk.load(), -4);
        Checks.badArgument("truncate(1) behind an error", () -> desk.truncate(1));
        ParetoDesk full = deskWithLength(600);
        Checks.same("load() of a full buffer", full.load(), -4);
        Checks.same("append() behind a full buffer", appendBlanks(full), 20);
        full.truncate(0);
        Checks.same("a text behind a longer one", Checks.load(full, HEAD), 0);
    }

    private static void loadReplacesEverything() {
        Checks.sentence("Promise 4", "On success everything but the two slots and the output buffer is that of the text.");
        ParetoDesk desk = Checks.deskOf(HEAD + ITEM + ITEM + ITEM + "need 1 0; must 0;");
        desk.bar(1, 2, true);
        desk.choose(3);
        desk.never(2, true);
        Checks.same("points() ahead", desk.points(), 1);
        Checks.same("load()", Checks.load(desk, "capacity 5 limit 4;" + ITEM + ITEM), 2);
        Checks.sameText("the desk then", Checks.state(desk), "2 5 4 0 0 0 0 0 |1 2 3 0 0 |1 2 3 0 0 ");
        Checks.same("its point's choice", desk.point(0, 2), 3);
        Checks.same("load() of no items", Checks.load(desk, "capacity 0 limit 0;"), 0);
        Checks.sameText("the desk of no items", Checks.state(desk), "0 0 0 0 0 0 0 0 ");
        Checks.sentence("EXCEPTIONS", "it is empty at first, and behind load().");
        ParetoDesk held = Checks.deskOf(HEAD + ITEM);
        held.take(0);
        Checks.load(held, HEAD + ITEM + "must 0;");
        Checks.same("the choice at hand behind load()", held.property(7), 0);
        Checks.same("it is refused", held.refusal(0), 5);
    }

    private static void loadLeavesSlotsAndOutput() {
        Checks.sentence("Promise 4", "everything but the two slots and the output buffer");
        ParetoDesk desk = Checks.deskOf(HEAD + ITEM);
        desk.keep(0);
        desk.setLimit(3);
        desk.keep(1);
        Checks.sameText("the output", Checks.frontier(desk), "2,3!");
        Checks.load(desk, "capacity 7 limit 7;");
        Checks.sameText("the output behind load()", Checks.output(desk, 4), "2,3!");
        Checks.outOfBounds("the byte behind the output", () -> desk.outputByte(4));
        Checks.same("restore(0) behind load()", desk.restore(0), 1);
        Checks.same("the limit of slot 0", desk.property(2), 9);
        Checks.same("restore(1) behind load()", desk.restore(1), 1);
        Checks.same("the limit of slot 1", desk.property(2), 3);
    }

    private static void loadAnswersItems() {
        Checks.sentence("Promise 4", "Returns the number of items; PARSE_ERROR if there is a parse error");
        right(HEAD, 0);
        right(HEAD + ITEM, 1);
        right(HEAD + ITEM.repeat(12), 12);
        Checks.same("PARSE_ERROR", ParetoDesk.PARSE_ERROR, -4);
        Checks.same("load() of nothing", new ParetoDesk().load(), ParetoDesk.PARSE_ERROR);
    }

    private static void loadWithAnErrorChangesNothing() {
        Checks.sentence("Promise 4", "(then only the buffer and the parse error change)");
        ParetoDesk desk = Checks.deskOf(HEAD + ITEM + ITEM + "bar 0 1;");
        desk.keep(1);
        desk.take(1);
        desk.writeFrontier();
        String before = Checks.state(desk);
        Checks.same("load() with an error at the end", Checks.load(desk, "capacity 1 limit 1;" + ITEM + "must 0; never 0"), -4);
        Checks.sameText("the desk behind an error", Checks.state(desk), before);
        Checks.same("undoCount() behind an error", desk.undoCount(), 2);
        Checks.sameText("the output behind an error", Checks.output(desk, 4), "2,3!");
        Checks.same("points() behind an error", desk.points(), 1);
        Checks.same("the choice of the point", desk.point(0, 2), 1);
        Checks.badState("slot 0 behind an error", () -> desk.restore(0));
        Checks.same("slot 1 behind an error", desk.restore(1), 2);
        desk.undo();
        Checks.same("undo() behind an error", desk.undo(), 1);
        Checks.same("the choice at hand, undone", desk.property(7), 0);
    }

    private static void errorCodeOfTheLastLoad() {
        Checks.sentence("Promise 5", "0 if it had none or there was no load().");
        ParetoDesk desk = new ParetoDesk();
        Checks.same("errorCode() without a load()", desk.errorCode(), 0);
        Checks.load(desk, HEAD + "must 0;");
        Checks.same("errorCode() behind an error", desk.errorCode(), 2);
        appendBlanks(desk);
        Checks.same("errorCode() behind append()", desk.errorCode(), 2);
        desk.truncate(0);
        desk.addItem(1, 1, 1);
        desk.undo();
        Checks.same("errorCode() behind undo()", desk.errorCode(), 2);
        Checks.load(desk, HEAD);
        Checks.same("errorCode() behind a good text", desk.errorCode(), 0);
        desk.undo();
        Checks.same("errorCode() behind undo() of a load()", desk.errorCode(), 0);
        desk.load();
        Checks.same("errorCode() of nothing", desk.errorCode(), 1);
    }

    private static void errorPositionOfTheLastLoad() {
        Checks.sentence("Promise 6", "NONE if it had none or there was no load().");
        ParetoDesk desk = new ParetoDesk();
        Checks.same("NONE", ParetoDesk.NONE, -1);
        Checks.same("errorPosition() without a load()", desk.errorPosition(), -1);
        Checks.load(desk, HEAD + "must 0;");
        Checks.same("errorPosition() behind an error", desk.errorPosition(), HEAD.length() + 5);
        appendBlanks(desk);
        Checks.same("errorPosition() behind append()", desk.errorPosition(), HEAD.length() + 5);
        desk.truncate(0);
        desk.addItem(1, 1, 1);
        desk.undo();
        Checks.same("errorPosition() behind undo()", desk.errorPosition(), HEAD.length() + 5);
        Checks.load(desk, HEAD);
        Checks.same("errorPosition() behind a good text", desk.errorPosition(), -1);
        desk.load();
        Checks.same("errorPosition() of nothing", desk.errorPosition(), 0);
    }

    // ---- section 1 ----

    private static void emptyText() {
        Checks.sentence("1. INPUT", "1 the token cannot stand here (also the end of an empty text)");
        ParetoDesk desk = new ParetoDesk();
        Checks.same("load() of an empty buffer", desk.load(), -4);
        Checks.same("errorCode()", desk.errorCode(), 1);
        Checks.same("errorPosition()", desk.errorPosition(), 0);
        wrong(1, " ^");
        wrong(1, "\n^");
        wrong(1, " ".repeat(600) + "^");
    }

    private static void oneOrMoreStatements() {
        Checks.sentence("1. INPUT", "load() parses it as a text of one or more statements");
        right(HEAD, 0);
        right(HEAD + ITEM, 1);
        right(HEAD + ITEM + "must 0; never 0;", 1);
        // As many statements as fit: the head, twelve items and all bars of the first five.
        StringBuilder text = new StringBuilder(HEAD + "item weight0gain0joy0;".repeat(12));
        int bars = 0;
        for (int item = 0; item < 12; item++) {
            for (int other = 0; other < item && text.length() <= 600 - 10; other++) {
                text.append("bar").append(item).append(' ').append(other).append(';');
                bars++;
            }
        }
        right(text.toString(), 12);
        Checks.same("all bars are told", Checks.deskOf(text.toString()).property(3), bars);
    }

    private static void semicolonBehindEachStatement() {
        Checks.sentence("1. INPUT", "each statement ends with ';'.");
        wrong(1, "capacity 9 limit 9^");
        wrong(1, "capacity 9 limit 9 ^item weight 1 gain 1 joy 1;");
        wrong(1, HEAD + "item weight 1 gain 2 joy 3^");
        wrong(1, HEAD + "item weight 1 gain 2 joy 3 ^must 0;");
        wrong(1, HEAD + ITEM + ITEM + "bar 0 1^");
        wrong(1, HEAD + ITEM + ITEM + "need 0 1 ^bar 0 1;");
        wrong(1, HEAD + ITEM + "must 0^");
        wrong(1, HEAD + ITEM + "never 0 ^,");
        wrong(1, HEAD + "^;");
        wrong(1, "^;" + HEAD);
        wrong(1, "capacity 9 limit 9^:");
    }

    private static void lettersOfAWord() {
        Checks.sentence("1. INPUT", "a word is a maximal run of lowercase letters a-z;");
        // The bytes next to a and z are no letters, so that the word ends there.
        wrong(1, "capacity 9 limit^{9;");
        wrong(1, "capacity 9 limit^`9;");
        wrong(1, "^`capacity 9 limit 9;");
        wrong(1, "capacity 9 ^limitz 9;");
        wrong(1, "capacity 9 ^limita 9;");
        wrong(1, "^acapacity 9 limit 9;");
        wrong(1, "^zcapacity 9 limit 9;");
        wrong(1, "^capacit");
        wrong(1, "^capacitx 9 limit 9;");
        wrong(1, "^bapacity 9 limit 9;");
        wrong(1, "^Capacity 9 limit 9;");
        wrong(1, "^cApacity 9 limit 9;");
        wrong(1, "capacity 9 ^limi T 9;");
        wrong(1, "^capacitylimit 9 9;");
        right("capacity9limit9;", 0);
    }

    private static void digitsOfANumber() {
        Checks.sentence("1. INPUT", "a number is a maximal run of decimal digits, of any length;");
        right("capacity 0 limit 0;", 0);
        right("capacity 909 limit 9;", 0);
        // The bytes next to 0 and 9 are no digits.
        wrong(1, "capacity ^/9 limit 9;");
        wrong(1, "capacity 9^/ limit 9;");
        wrong(1, "capacity ^:9 limit 9;");
        wrong(1, "capacity 9^: limit 9;");
        wrong(1, "capacity ^-9 limit 9;");
        wrong(1, "capacity ^+9 limit 9;");
        wrong(1, "capacity 9^.9 limit 9;");
        wrong(1, "capacity 9 ^9 limit 9;");
        wrong(1, "capacity 9\n^9 limit 9;");
    }

    private static void numbersOfAnyLength() {
        Checks.sentence("1. INPUT", "decimal digits, of any length;");
        String zeros = "0".repeat(570);
        ParetoDesk desk = Checks.deskOf("capacity " + zeros + "987 limit 6;");
        Checks.same("the capacity behind many zeros", desk.property(1), 987);
        Checks.same("the limit behind it", desk.property(2), 6);
        right("capacity 5 limit " + zeros + "12;", 0);
        wrong(2, "capacity ^" + "9".repeat(580) + " limit 6;");
        wrong(2, "capacity ^1" + zeros + " limit 6;");
        // Numbers that wrap round to 5 in 32 and in 64 bits.
        wrong(2, "capacity ^4294967301 limit 6;");
        wrong(2, "capacity ^18446744073709551621 limit 6;");
        wrong(2, "capacity 6 limit ^4294967301;");
        wrong(2, HEAD + "item weight ^4294967301 gain 1 joy 1;");
        wrong(2, HEAD + ITEM + ITEM + "bar 0 ^4294967297;");
        wrong(2, HEAD + ITEM + ITEM + "need ^18446744073709551616 1;");
        wrong(2, HEAD + ITEM + "must ^4294967296;");
        wrong(2, "capacity ^2147483648 limit 6;");
        right(HEAD + ITEM + ITEM + "bar 000 0000001;", 2);
    }

    private static void otherBytesAreSymbols() {
        Checks.sentence("1. INPUT", "each other byte except space (32) and newline (10) is a symbol of its own.");
        for (int sign = 0; sign < 256; sign++) {
            boolean letter = sign >= 'a' && sign <= 'z';
            boolean digit = sign >= '0' && sign <= '9';
            if (sign != 32 && sign != 10) {
                wrong(1, "^" + (char) sign);
                wrong(1, HEAD + "^" + (char) sign + ITEM);
            }
            if (sign != 32 && sign != 10 && !letter && !digit) {
                wrong(1, "capacity^" + (char) sign + "5 limit 5;");
                wrong(1, "capacity 5^" + (char) sign + "limit 5;");
            }
        }
        // A symbol is one byte, also next to another one like it.
        wrong(1, "capacity 5 limit 5;^;");
        wrong(1, "^\u00e1\u00e1");
    }

    private static void blanksOnlySeparate() {
        Checks.sentence("1. INPUT", "Spaces and newlines only separate tokens.");
        right("\n \ncapacity\n\n9 \n limit\n9\n;\n" + ITEM + "must\n0\n \n;\n ", 1);
        right(" " + HEAD + " ", 0);
        right("capacity 9limit 9;item weight1gain2joy3;must0;", 1);
        wrong(1, "^capa city 9 limit 9;");
        wrong(1, "capacity 1 ^0 limit 9;");
        wrong(1, "^\tcapacity 9 limit 9;");
        wrong(1, "capacity 9 limit 9;^\r\n");
        wrong(1, "capacity 9 limit 9;^\u000b");
        wrong(1, "capacity 9 limit 9;^\u001f");
        wrong(1, "capacity 9 limit 9;^!");
        wrong(1, "capacity 9 limit 9;^\t");
        wrong(1, "capacity 9 limit 9;^\u00a0");
    }

    private static void capacityAndLimit() {
        Checks.sentence("1. INPUT", "the capacity, 0 to 999; how many items a choice may have, 0 to 12.");
        Checks.same("capacity 0", Checks.deskOf("capacity 0 limit 1;").property(1), 0);
        Checks.same("capacity 999", Checks.deskOf("capacity 999 limit 1;").property(1), 999);
        wrong(2, "capacity ^1000 limit 1;");
        Checks.same("limit 0", Checks.deskOf("capacity 5 limit 0;").property(2), 0);
        Checks.same("limit 12", Checks.deskOf("capacity 5 limit 12;").property(2), 12);
        wrong(2, "capacity 5 limit ^13;");
        wrong(2, "capacity ^1000 limit 13;");
    }

    private static void firstStatementAndOnlyThere() {
        Checks.sentence("1. INPUT", "The first statement, and only there");
        wrong(1, "^item weight 1 gain 2 joy 3;" + HEAD);
        wrong(1, "^limit 9;");
        wrong(1, "^bar 0 1;");
        wrong(1, "^need 0 1;");
        wrong(1, "^must 0;");
        wrong(1, "^never 0;");
        wrong(1, HEAD + "^capacity 9 limit 9;");
        wrong(1, HEAD + ITEM + "^capacity 9 limit 9;");
        wrong(1, HEAD + "^limit 9;");
        wrong(1, "capacity 9 ^;");
        wrong(1, "capacity 9 ^capacity 9;");
    }

    private static void numbersOfAnItem() {
        Checks.sentence("1. INPUT", "item weight N gain N joy N an item, each number 0 to 99.");
        ParetoDesk desk = Checks.deskOf(HEAD + "item weight 0 gain 99 joy 0; item weight 99 gain 0 joy 99;");
        Checks.sameText("the least and the greatest", Checks.state(desk), "2 9 9 0 0 0 0 0 |0 99 0 0 0 |99 0 99 0 0 ");
        wrong(2, HEAD + "item weight ^100 gain 1 joy 1;");
        wrong(2, HEAD + "item weight 1 gain ^100 joy 1;");
        wrong(2, HEAD + "item weight 1 gain 1 joy ^100;");
    }

    private static void twelveItems() {
        Checks.sentence("1. INPUT", "At most 12 items, numbered from 0");
        StringBuilder text = new StringBuilder(HEAD);
        for (int i = 0; i < 12; i++) {
            text.append("item weight ").append(i).append(" gain 0 joy 0;");
        }
        ParetoDesk desk = Checks.deskOf(text + "must 0; never 11;");
        Checks.same("twelve items", desk.property(0), 12);
        Checks.same("the set of the first one", desk.property(5), 1);
        Checks.same("the set of the last one", desk.property(6), 2048);
        for (int i = 0; i < 12; i++) {
            Checks.same("the weight of item " + i, desk.item(i, 0), i);
        }
        wrong(4, text + "^item weight 1 gain 1 joy 1;");
        Checks.same("no items", Checks.deskOf(HEAD).property(0), 0);
    }

    private static void itemsToldAhead() {
        Checks.sentence("1. INPUT", "2 a number is out of range (also of an item that was not told ahead)");
        for (String word : new String[] {"bar", "need"}) {
            wrong(2, HEAD + word + " ^0 1;");
            wrong(2, HEAD + ITEM + word + " ^1 0;" + ITEM);
            wrong(2, HEAD + ITEM + word + " 0 ^1;" + ITEM);
            right(HEAD + ITEM + ITEM + word + " 0 1;" + ITEM, 3);
            right(HEAD + ITEM.repeat(12) + word + " 11 0;", 12);
            wrong(2, HEAD + ITEM.repeat(12) + word + " ^12 0;");
            wrong(2, HEAD + ITEM.repeat(12) + word + " 11 ^12;");
        }
        for (String word : new String[] {"must", "never"}) {
            wrong(2, HEAD + word + " ^0;" + ITEM);
            right(HEAD + ITEM + word + " 0;" + ITEM, 2);
            wrong(2, HEAD + ITEM + word + " ^1;" + ITEM);
            right(HEAD + ITEM.repeat(12) + word + " 11;", 12);
            wrong(2, HEAD + ITEM.repeat(12) + word + " ^12;");
        }
    }

    private static void wordsOfTheStatements() {
        Checks.sentence("1. INPUT", "1 the token cannot stand here");
        wrong(1, HEAD + "item ^gain 1 weight 1 joy 1;");
        wrong(1, HEAD + "item weight 1 ^joy 1 gain 1;");
        wrong(1, HEAD + "item weight 1 gain 1 ^;");
        wrong(1, HEAD + "item weight ^gain 1 joy 1;");
        wrong(1, HEAD + "item weight 1 gain ^joy 1;");
        wrong(1, HEAD + "item weight 1 gain 1 joy ^;");
        wrong(1, HEAD + "item weight 1 gain 1 joy 1 ^1;");
        wrong(1, HEAD + "^items weight 1 gain 1 joy 1;");
        wrong(1, HEAD + ITEM + "^bars 0 0;");
        wrong(1, HEAD + ITEM + "^ba 0 0;");
        wrong(1, HEAD + ITEM + "^5");
        wrong(1, HEAD + ITEM + ITEM + "bar ^;");
        wrong(1, HEAD + ITEM + ITEM + "bar 0 ^;");
        wrong(1, HEAD + ITEM + ITEM + "need 0 ^must");
        wrong(1, HEAD + ITEM + "must ^must 0;");
        wrong(1, HEAD + ITEM + "never ^;");
        for (String cut : new String[] {"item", "item weight", "item weight 1", "item weight 1 gain", "item weight 1 gain 1",
            "item weight 1 gain 1 joy", "bar", "bar 0", "need", "need 0", "must", "never"}) {
            wrong(1, HEAD + ITEM + cut + "^");
            wrong(1, HEAD + ITEM + cut + " \n ^");
        }
        for (String cut : new String[] {"capacity", "capacity 9", "capacity 9 limit", "capacity 9 limit 9"}) {
            wrong(1, cut + "^");
        }
    }

    private static void firstTokenWithAnError() {
        Checks.sentence("1. INPUT", "stops at the first token that has an error;");
        wrong(2, "capacity ^1000 limit 13; foo");
        wrong(2, HEAD + "item weight ^100 gain x joy 100;");
        wrong(2, HEAD + ITEM + "bar ^1 0 0");
        wrong(3, HEAD + ITEM + "bar 0 ^0 foo");
        wrong(1, HEAD + "item ^100 weight");
        wrong(4, HEAD + ITEM.repeat(12) + "^item foo;");
    }

    private static void smallestCodeCounts() {
        Checks.sentence("1. INPUT", "if that token has several errors, the smallest code counts.");
        // A number that cannot stand here and would be out of range; the word item of a 13th item where no word can stand.
        wrong(1, "capacity 9 ^1000 limit 9;");
        wrong(1, HEAD + "^1000;");
        wrong(1, HEAD + ITEM + "must 0 ^5;");
        wrong(1, HEAD + ITEM.repeat(12) + "must ^item weight 1 gain 1 joy 1;");
        wrong(1, HEAD + ITEM.repeat(12) + "bar 0 ^item;");
        wrong(1, HEAD + ITEM.repeat(12).substring(0, 12 * ITEM.length() - 1) + "^item weight 1 gain 1 joy 1;");
        wrong(2, HEAD + ITEM + "bar ^1 1;");
        wrong(2, HEAD + ITEM + "need ^5 5;");
        // The same pair once more, of an item with itself, is told only by its first token that is wrong.
        wrong(3, HEAD + ITEM + ITEM + "need 0 1; need 0 ^1 1;");
    }

    private static void positionOfTheFirstByte() {
        Checks.sentence("1. INPUT", "The error position is the offset of the token's first byte; for the end of the text it is the"
            + " text's length.");
        wrong(1, "^capacitycapacity");
        wrong(1, "   ^foo");
        wrong(2, "capacity   ^00001000 limit 9;");
        wrong(2, "capacity\n\n^1000 limit 9;");
        wrong(1, HEAD + "^foo   ");
        wrong(1, HEAD + "item   ^");
        wrong(1, HEAD + "item\n\n^");
        wrong(1, "capacity 9 limit 9 " + " ".repeat(581) + "^");
    }

    private static void samePair() {
        Checks.sentence("1. INPUT", "3 the second ITEM of a bar or need statement that is the first one, or with which the same pair"
            + " was told already (of bar statements in any order);");
        String three = HEAD + ITEM + ITEM + ITEM;
        for (String word : new String[] {"bar", "need"}) {
            wrong(3, HEAD + ITEM + word + " 0 ^0;");
            wrong(3, three + word + " 2 ^2;");
            wrong(3, three + word + " 0 1;" + word + " 0 ^1;");
            wrong(3, three + word + " 0 1;" + word + " 0 2;" + word + " 1 2;" + word + " 0 ^2;");
            right(three + word + " 0 1;" + word + " 0 2;" + word + " 1 2;", 3);
        }
        wrong(3, three + "bar 0 1; bar 1 ^0;");
        wrong(3, three + "bar 2 0; bar 0 ^2;");
        right(three + "need 0 1; need 1 0;", 3);
        wrong(3, three + "need 0 1; need 1 0; need 1 ^0;");
        right(three + "bar 0 1; need 0 1; need 1 0;", 3);
        right(three + "need 0 1; need 1 0; bar 0 1;", 3);
        right(three + "need 0 1; bar 1 0; need 1 0;", 3);
        wrong(3, three + "need 0 1; bar 1 0; bar 0 ^1;");
    }

    private static void sameSingle() {
        Checks.sentence("1. INPUT", "the ITEM of a must or never statement that was told in a statement with the same word (must and"
            + " never of one item are no error)");
        String two = HEAD + ITEM + ITEM;
        wrong(3, two + "must 0; must ^0;");
        wrong(3, two + "must 1; must 0; must ^1;");
        wrong(3, two + "never 0; never ^0;");
        wrong(3, two + "never 1; must 1; never ^1;");
        right(two + "must 0; must 1; never 0; never 1;", 2);
        right(two + "never 0; must 0;", 2);
        Checks.same("must and never of one item", Checks.deskOf(two + "never 1; must 1;").allowed(), 0);
    }

    private static void thirteenthItem() {
        Checks.sentence("1. INPUT", "4 the word item of a 13th item");
        wrong(4, HEAD + ITEM.repeat(12) + "^item weight 1 gain 2 joy 3;");
        wrong(4, HEAD + ITEM.repeat(12) + "^item");
        wrong(4, HEAD + ITEM.repeat(12) + "must 0; ^item;");
        wrong(1, HEAD + ITEM.repeat(11) + "item^");
        wrong(1, HEAD + ITEM.repeat(12) + "^items");
        right(HEAD + ITEM.repeat(12), 12);
    }
}
