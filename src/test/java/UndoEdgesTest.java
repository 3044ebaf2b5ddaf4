/** The boundary cases of section 5 and of promises 61 and 62: one method for each sentence of the document. */
public final class UndoEdgesTest {
    private static final int CALLS = 16;
    private static final String ITEM = "item weight 1 gain 1 joy 1;";
    private static final String TEXT = "capacity 9 limit 8; item weight 1 gain 5 joy 2; item weight 2 gain 2 joy 5;"
        + "item weight 3 gain 3 joy 3; bar 0 1; need 2 1; never 2;";

    public static void main(String[] args) {
        nothingToUndo();
        eachCallCanBeUndone();
        alsoIfNothingChanges();
        aheadOfALoad();
        callsThatThrowDoNotCount();
        questionsDoNotCount();
        theLastEight();
        eightOfEachCall();
        theLatestOneFirst();
        howManyCanStillBeUndone();
        undoIsNotUndone();
        buffersStay();
        parseErrorStays();
        slotsStay();
        whatIsWorkedOutFollows();
        twelveItemsComeBack();
        changesLeaveTheBuffers();
        Checks.end("UndoEdgesTest");
    }

    private static ParetoDesk prepared() {
        ParetoDesk desk = Checks.deskOf(TEXT);
        desk.keep(0);
        desk.choose(2);
        return desk;
    }

    /** One of the calls that can be undone, each of which changes a prepared desk. */
    private static void change(ParetoDesk desk, int call) {
        switch (call) {
            case 0: desk.addItem(9, 9, 9); break;
            case 1: desk.dropItem(1); break;
            case 2: desk.setItem(1, 2, 77); break;
            case 3: desk.setCapacity(500); break;
            case 4: desk.setLimit(2); break;
            case 5: desk.bar(1, 2, true); break;
            case 6: desk.need(2, 1, false); break;
            case 7: desk.must(1, true); break;
            case 8: desk.never(2, false); break;
            case 9: desk.choose(0); break;
            case 10: desk.chooseBest(1, 0); break;
            case 11: desk.improve(1, 0); break;
            case 12: desk.leave(1); break;
            case 13: desk.restore(0); break;
            case 14: Checks.load(desk, "capacity 1 limit 1;" + ITEM); break;
            default: desk.undo(); desk.take(1); break;
        }
    }

    private static void nothingToUndo() {
        Checks.sentence("Promise 61", "Throws `IllegalStateException` if there is nothing to undo");
        ParetoDesk desk = new ParetoDesk();
        Checks.badState("undo() of a new desk", () -> desk.undo());
        Checks.badState("undo() once more", () -> desk.undo());
        desk.setLimit(3);
        Checks.same("undo() of one call", desk.undo(), 0);
        Checks.badState("undo() behind it", () -> desk.undo());
        Checks.same("undoCount() behind it", desk.undoCount(), 0);
        Checks.same("the limit behind it", desk.property(2), 12);
        desk.setLimit(4);
        Checks.same("a further call", desk.undoCount(), 1);
    }

    private static void eachCallCanBeUndone() {
        Checks.sentence("5. UNDO", ", and each call of addItem(), dropItem(), setItem(), setCapacity(), setLimit(), bar(), need(), must(),"
            + " never(), choose(), chooseBest(), improve(), take(), leave() and restore() that does not throw (also if nothing"
            + " changes) can be undone;");
        for (int call = 0; call < CALLS; call++) {
            ParetoDesk desk = prepared();
            String before = Checks.state(desk);
            boolean last = call == CALLS - 1;
            change(desk, call);
            Checks.same("undoCount() behind call " + call, desk.undoCount(), last ? 2 : 3);
            boolean same = Checks.state(desk).equals(before);
            Checks.same("call " + call + " changes the desk", same, last);
            Checks.same("undo() of call " + call, desk.undo(), last ? 1 : 2);
            if (last) {
                desk.choose(2);
            }
            Checks.sameText("the desk ahead of call " + call, Checks.state(desk), before);
        }
    }

    private static void alsoIfNothingChanges() {
        Checks.sentence("5. UNDO", "(also if nothing changes)");
        for (int call = 0; call < 13; call++) {
            ParetoDesk desk = prepared();
            desk.keep(1);
            String before = Checks.state(desk);
            switch (call) {
                case 0: desk.setItem(0, 0, 1); break;
                case 1: desk.setCapacity(9); break;
                case 2: desk.setLimit(8); break;
                case 3: desk.bar(1, 0, true); break;
                case 4: desk.bar(1, 2, false); break;
                case 5: desk.need(2, 1, true); break;
                case 6: desk.need(1, 2, false); break;
                case 7: desk.must(0, false); break;
                case 8: desk.never(2, true); break;
                case 9: desk.choose(2); break;
                case 10: desk.chooseBest(0, 1); break;
                case 11: desk.improve(0, 1); break;
                default: desk.restore(1); break;
            }
            Checks.sameText("nothing changes by call " + call, Checks.state(desk), before);
            Checks.same("undoCount() behind call " + call, desk.undoCount(), 3);
            Checks.same("undo() of call " + call, desk.undo(), 2);
            Checks.sameText("nothing changes by undo() of call " + call, Checks.state(desk), before);
        }
        ParetoDesk twice = Checks.deskOf(TEXT);
        Checks.load(twice, TEXT);
        Checks.same("undoCount() of the same text twice", twice.undoCount(), 2);
    }

    private static void aheadOfALoad() {
        Checks.sentence("5. UNDO", "Each successful load() (undo() brings back what was there ahead of it)");
        ParetoDesk desk = prepared();
        desk.must(1, true);
        String before = Checks.state(desk);
        Checks.load(desk, "capacity 1 limit 1;");
        Checks.same("undoCount() behind load()", desk.undoCount(), 4);
        Checks.same("undo() of load()", desk.undo(), 3);
        Checks.sameText("what was there ahead of it", Checks.state(desk), before);
        desk.undo();
        desk.undo();
        Checks.same("undo() of the first load()", desk.undo(), 0);
        Checks.sameText("a new desk", Checks.state(desk), "0 20 12 0 0 0 0 0 ");
        ParetoDesk first = Checks.deskOf("capacity 1 limit 1;");
        Checks.same("undoCount() of a first load()", first.undoCount(), 1);
        Checks.load(first, "capacity 1 limit 1");
        Checks.same("undoCount() behind a load() with an error", first.undoCount(), 1);
    }

    private static void callsThatThrowDoNotCount() {
        Checks.sentence("5. UNDO", "that does not throw");
        ParetoDesk desk = prepared();
        Checks.badArgument("addItem()", () -> desk.addItem(0, 0, 100));
        Checks.outOfBounds("dropItem()", () -> desk.dropItem(3));
        Checks.badArgument("setItem()", () -> desk.setItem(0, 0, 100));
        Checks.badArgument("setCapacity()", () -> desk.setCapacity(1000));
        Checks.badArgument("setLimit()", () -> desk.setLimit(13));
        Checks.badArgument("bar()", () -> desk.bar(0, 0, true));
        Checks.badArgument("need()", () -> desk.need(0, 0, true));
        Checks.outOfBounds("must()", () -> desk.must(3, true));
        Checks.outOfBounds("never()", () -> desk.never(3, true));
        Checks.badState("choose()", () -> desk.choose(4));
        Checks.badArgument("chooseBest()", () -> desk.chooseBest(0, 0));
        Checks.badArgument("improve()", () -> desk.improve(0, 0));
        Checks.badState("take()", () -> desk.take(0));
        Checks.badState("leave()", () -> desk.leave(0));
        Checks.badState("restore()", () -> desk.restore(1));
        Checks.sentence("Promise 62", "Returns how many calls can be undone.");
        Checks.same("undoCount()", desk.undoCount(), 2);
    }

    private static void questionsDoNotCount() {
        Checks.sentence("Promise 62", "Returns how many calls can be undone.");
        ParetoDesk desk = new ParetoDesk();
        Checks.same("of a new desk", desk.undoCount(), 0);
        desk.append(0, 0, 0, 0, 0);
        desk.truncate(0);
        desk.load();
        desk.keep(0);
        desk.climb(1, 1);
        desk.best(1, 1);
        desk.writeFrontier();
        desk.writeChoices();
        desk.points();
        desk.layers();
        Checks.same("behind questions", desk.undoCount(), 0);
    }

    private static void theLastEight() {
        Checks.sentence("5. UNDO", "the last 8 are kept.");
        for (int calls = 7; calls <= 20; calls++) {
            ParetoDesk desk = new ParetoDesk();
            for (int i = 1; i <= calls; i++) {
                desk.setCapacity(100 + i);
                Checks.same("undoCount() behind " + i, desk.undoCount(), Math.min(8, i));
            }
            int kept = Math.min(8, calls);
            for (int i = 1; i <= kept; i++) {
                Checks.same("undo() number " + i + " of " + calls, desk.undo(), kept - i);
                Checks.same("the capacity then", desk.property(1), calls - i == 0 ? 20 : 100 + calls - i);
            }
            Checks.badState("one undo() more of " + calls, () -> desk.undo());
            int oldest = calls - kept;
            Checks.same("the capacity of the oldest one", desk.property(1), oldest == 0 ? 20 : 100 + oldest);
        }
    }

    private static void eightOfEachCall() {
        Checks.sentence("5. UNDO", "the last 8 are kept.");
        for (int call = 0; call < CALLS - 1; call++) {
            ParetoDesk desk = new ParetoDesk();
            Checks.load(desk, TEXT);
            desk.choose(2);
            desk.keep(0);
            for (int i = 0; i < 7; i++) {
                desk.setCapacity(20 + i);
            }
            // The load and the first choice are forgotten now; what was there ahead of the changes of the capacity stays.
            change(desk, call);
            Checks.same("undoCount() behind a ninth call " + call, desk.undoCount(), 8);
            for (int i = 7; i >= 0; i--) {
                Checks.same("undo() behind call " + call, desk.undo(), i);
            }
            Checks.badState("a ninth undo() behind call " + call, () -> desk.undo());
            Checks.same("the capacity then", desk.property(1), 9);
            Checks.same("the choice at hand then", desk.property(7), 2);
        }
    }

    private static void theLatestOneFirst() {
        Checks.sentence("Promise 61", "Undoes the latest call that can be undone (section 5).");
        ParetoDesk desk = prepared();
        String[] states = new String[20];
        int made = 0;
        for (int call = 0; call < CALLS - 1; call++) {
            if (call != 12 && call != 8 && call != 7 && call != 5) {
                states[made] = Checks.state(desk);
                change(desk, call);
                made++;
            }
        }
        for (int i = 1; i <= 8; i++) {
            Checks.same("undo() number " + i, desk.undo(), 8 - i);
            Checks.sameText("the desk then", Checks.state(desk), states[made - i]);
        }
        Checks.badState("undo() number 9", () -> desk.undo());
    }

    private static void howManyCanStillBeUndone() {
        Checks.sentence("Promise 61", "Returns how many calls can still be undone.");
        ParetoDesk desk = new ParetoDesk();
        desk.setLimit(1);
        desk.setLimit(2);
        desk.setLimit(3);
        Checks.same("undo() of three", desk.undo(), 2);
        desk.setLimit(4);
        Checks.same("undoCount() of two and one", desk.undoCount(), 3);
        Checks.same("undo() of it", desk.undo(), 2);
        Checks.same("the limit", desk.property(2), 2);
        Checks.same("undo() of two", desk.undo(), 1);
        Checks.same("undo() of one", desk.undo(), 0);
        Checks.same("the first limit", desk.property(2), 12);
    }

    private static void undoIsNotUndone() {
        Checks.sentence("5. UNDO", "can be undone; the last 8 are kept. undo() restores everything");
        ParetoDesk desk = new ParetoDesk();
        for (int i = 0; i < 10; i++) {
            desk.setLimit(i);
        }
        for (int i = 0; i < 30; i++) {
            Checks.same("undo()", desk.undo(), 7);
            Checks.same("the limit", desk.property(2), 8);
            desk.setLimit(9);
            Checks.same("undoCount()", desk.undoCount(), 8);
        }
        ParetoDesk kept = new ParetoDesk();
        kept.setLimit(1);
        kept.keep(0);
        Checks.same("keep() cannot be undone", kept.undo(), 0);
        Checks.same("the limit behind it", kept.property(2), 12);
    }

    private static void buffersStay() {
        Checks.sentence("5. UNDO", "undo() restores everything except the two buffers, the parse error and the two slots.");
        ParetoDesk desk = new ParetoDesk();
        desk.setLimit(3);
        Checks.give(desk, "capacity 7 limit 6;");
        desk.addItem(1, 12, 3);
        desk.writeFrontier();
        desk.undo();
        Checks.sameText("the output", Checks.output(desk, 5), "12,3!");
        Checks.outOfBounds("its end", () -> desk.outputByte(5));
        Checks.badArgument("the input's end", () -> desk.truncate(20));
        desk.truncate(19);
        Checks.same("load() of the input", desk.load(), 0);
        Checks.same("its capacity", desk.property(1), 7);
        Checks.give(desk, "capacity 8 limit 6;");
        desk.undo();
        Checks.same("load() of an input behind undo() of load()", desk.load(), 0);
        Checks.same("its capacity", desk.property(1), 8);
        desk.undo();
        Checks.badArgument("a loaded input does not come back", () -> desk.truncate(1));
    }

    private static void parseErrorStays() {
        Checks.sentence("5. UNDO", "except the two buffers, the parse error and the two slots.");
        ParetoDesk desk = new ParetoDesk();
        desk.setLimit(3);
        Checks.load(desk, "capacity 1000");
        desk.undo();
        Checks.same("errorCode()", desk.errorCode(), 2);
        Checks.same("errorPosition()", desk.errorPosition(), 9);
        Checks.load(desk, "capacity 999 limit 1;");
        desk.undo();
        Checks.same("errorCode() of a good text", desk.errorCode(), 0);
        Checks.same("errorPosition() of a good text", desk.errorPosition(), -1);
    }

    private static void slotsStay() {
        Checks.sentence("5. UNDO", "and the two slots.");
        ParetoDesk desk = new ParetoDesk();
        desk.setLimit(3);
        desk.keep(1);
        desk.undo();
        Checks.same("restore(1)", desk.restore(1), 0);
        Checks.same("the limit of slot 1", desk.property(2), 3);
        Checks.badState("restore(0)", () -> desk.restore(0));
        desk.setLimit(4);
        desk.keep(0);
        desk.keep(1);
        desk.undo();
        desk.undo();
        desk.restore(1);
        Checks.same("the limit of slot 1 then", desk.property(2), 4);
        desk.restore(0);
        Checks.same("the limit of slot 0 then", desk.property(2), 4);
    }

    private static void whatIsWorkedOutFollows() {
        Checks.sentence("5. UNDO", "undo() restores everything");
        ParetoDesk desk = prepared();
        String frontier = Checks.frontier(desk);
        Checks.sameText("the frontier", frontier, "2,5! 5,2!");
        for (int call = 0; call < CALLS - 1; call++) {
            int layers = desk.layers();
            int steps = desk.steps();
            change(desk, call);
            desk.writeFrontier();
            desk.layers();
            desk.steps();
            desk.undo();
            Checks.same("steps() behind call " + call, desk.steps(), steps);
            Checks.same("layers() behind call " + call, desk.layers(), layers);
            Checks.sameText("the frontier behind call " + call, Checks.frontier(desk), frontier);
        }
    }

    private static void twelveItemsComeBack() {
        Checks.sentence("5. UNDO", "undo() restores everything");
        ParetoDesk desk = new ParetoDesk();
        for (int i = 0; i < 12; i++) {
            desk.addItem(i, 2 * i + 1, 3 * i + 2);
        }
        for (int i = 0; i < 12; i++) {
            desk.bar(i, (i + 1) % 12, true);
            desk.need(i, (i + 5) % 12, true);
        }
        desk.must(11, true);
        desk.never(0, true);
        desk.setCapacity(997);
        String all = Checks.state(desk);
        Checks.same("keep(1)", desk.keep(1), 12);
        Checks.load(desk, "capacity 9 limit 9;" + ITEM.repeat(12));
        Checks.sameText("a load() of twelve others", Checks.state(desk), "12 9 9 0 0 0 0 0 " + "|1 1 1 0 0 ".repeat(12));
        desk.undo();
        Checks.sameText("behind undo() of it", Checks.state(desk), all);
        changeTheLast(desk);
        for (int i = 0; i < 5; i++) {
            desk.undo();
        }
        Checks.sameText("behind undo() of changes of the last item", Checks.state(desk), all);
        Checks.sentence("Promise 60", "Makes everything as it was kept in a slot, which keeps it.");
        changeTheLast(desk);
        Checks.same("restore(1)", desk.restore(1), 12);
        Checks.sameText("behind restore(1)", Checks.state(desk), all);
    }

    private static void changeTheLast(ParetoDesk desk) {
        for (int what = 0; what <= 2; what++) {
            desk.setItem(11, what, 90 + what);
        }
        desk.bar(11, 0, false);
        desk.need(11, 4, false);
    }

    private static void changesLeaveTheBuffers() {
        for (int call = 0; call < CALLS; call++) {
            if (call != 14) {
                ParetoDesk desk = prepared();
                Checks.load(desk, "capacity 1000");
                desk.writeFrontier();
                Checks.give(desk, "capacity 77 limit 6;");
                desk.truncate(19);
                change(desk, call);
                Checks.sentence("Promise 5", "Returns the code of the parse error of the last load();");
                Checks.same("errorCode() behind call " + call, desk.errorCode(), 2);
                Checks.sentence("Promise 6", "Returns the position of the parse error of the last load();");
                Checks.same("errorPosition() behind call " + call, desk.errorPosition(), 9);
                Checks.sentence("Promise 65", "Throws `IndexOutOfBoundsException` if index is negative or not less than the output's"
                    + " length");
                Checks.sameText("the output behind call " + call, Checks.output(desk, 9), "2,5! 5,2!");
                Checks.outOfBounds("the byte behind it", () -> desk.outputByte(9));
                Checks.sentence("Promise 3", "Throws `IllegalArgumentException` if length is out of range");
                Checks.badArgument("truncate(20) behind call " + call, () -> desk.truncate(20));
                desk.append(0x3B202020, 0x20202020, 0x20202020, 0x20202020, 0x20202020);
                Checks.same("load() behind call " + call, desk.load(), 0);
                Checks.same("its capacity", desk.property(1), 77);
            }
        }
    }
}
