/** Desks at the edges of the document: without items, with the most of them, without points, with one and with many. */
final class Desks {
    /** Numbers that no item, point, slot, set or other small number can be. */
    static final int[] FAR = {-1, -2, Integer.MIN_VALUE, Integer.MAX_VALUE};

    private Desks() {
    }

    /** No choice is allowed, though there are items. */
    static ParetoDesk none() {
        return Checks.deskOf("capacity 9 limit 9; item weight 1 gain 2 joy 3; item weight 1 gain 3 joy 2; must 0; never 0;");
    }

    /** With a limit of 1 each item is a choice of its own; the empty choice is beaten where a gain or joy is above 0. */
    static ParetoDesk ofPairs(int... gainsAndJoys) {
        ParetoDesk desk = new ParetoDesk();
        desk.setLimit(1);
        for (int i = 0; i + 1 < gainsAndJoys.length; i += 2) {
            desk.addItem(1, gainsAndJoys[i], gainsAndJoys[i + 1]);
        }
        return desk;
    }

    /** The points 0,12! 2,11+ 4,10! 5,8. 6,7+ 7,5. 8,4! 9,0! of one item each. */
    static ParetoDesk eight() {
        return ofPairs(0, 12, 2, 11, 4, 10, 5, 8, 6, 7, 7, 5, 8, 4, 9, 0);
    }

    /** The points 0,3 and 3,0, the choices of which, 1 and 2, are heavier than the others of the same pairs, 4 and 8. */
    static ParetoDesk heavyFirst() {
        return Checks.deskOf("capacity 9 limit 1; item weight 5 gain 0 joy 3; item weight 5 gain 3 joy 0;"
            + "item weight 1 gain 0 joy 3; item weight 1 gain 3 joy 0;");
    }

    /** Twelve items without weight, each of this gain and joy, all of which go together. */
    static ParetoDesk twelve(int gain, int joy) {
        ParetoDesk desk = new ParetoDesk();
        for (int i = 0; i < 12; i++) {
            desk.addItem(0, gain, joy);
        }
        return desk;
    }

    /**
     * Items 0 to 5 have gains, 6 to 11 joys of 1, 2, 4, 8, 16 and 32, and each gain bars its joy: the points are g,63-g
     * for g from 0 to 63, all on one line.
     */
    static ParetoDesk line() {
        ParetoDesk desk = new ParetoDesk();
        for (int i = 0; i < 12; i++) {
            desk.addItem(0, i < 6 ? 1 << i : 0, i < 6 ? 0 : 1 << (i - 6));
        }
        for (int i = 0; i < 6; i++) {
            desk.bar(i, i + 6, true);
        }
        return desk;
    }

    /** The set whose pair is g,63-g on the desk of a line. */
    static int onLine(int gain) {
        return gain | (63 - gain) << 6;
    }

    static String named(String name, int... arguments) {
        StringBuilder text = new StringBuilder(name).append('(');
        for (int i = 0; i < arguments.length; i++) {
            text.append(i > 0 ? ", " : "").append(arguments[i]);
        }
        return text.append(')').toString();
    }
}
