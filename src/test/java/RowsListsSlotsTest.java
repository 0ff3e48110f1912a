/** Promises 29 to 40: the ROW, WHAT KIND, LISTS, TOLD TIMES, SLOTS. */
public final class RowsListsSlotsTest {
    private static final int[] UNDER_EACH = {0b111111, 0b010010, 0b001100, 0b001000, 0b010000, 0b100000};

    public static void main(String[] args) {
        row();
        whatIs();
        list();
        putAndLook();
        lays();
        laysNotAll();
        judge();
        slot();
        slots();
        slotsRefused();
        slotted();
        like();
        Due.end("RowsListsSlotsTest");
    }

    private static void row() {
        WalkTimes x = new WalkTimes();
        Due.is("clear() of none", x.clear(), 0);
        Due.is("row(0)", x.row(0), 1);
        Due.is("row(99)", x.row(99), 2);
        Due.refuses(x, "row(-1)", -4, () -> x.row(-1));
        Due.refuses(x, "row(100)", -6, () -> x.row(100));
        for (int k = 3; k <= 10; k++) {
            Due.is("row " + k, x.row(5), k);
        }
        Due.refuses(x, "row 11", -6, () -> x.row(5));
        Due.refuses(x, "row(-1), full", -4, () -> x.row(-1));
        Due.is("clear()", x.clear(), 10);
        Due.is("clear() again", x.clear(), 0);
        Due.is("row(1)", x.row(1), 1);
        Due.is("count(3)", x.count(3), 1);
    }

    private static void rows(WalkTimes x, int... numbers) {
        x.clear();
        for (int v : numbers) {
            x.row(v);
        }
    }

    private static void whatIs() {
        WalkTimes x = new WalkTimes();
        x.row(1);
        Due.refuses(x, "whatIs(0, 2)", -1, () -> x.whatIs(0, 2));
        x.way(0, 1, 5, 5);
        Due.refuses(x, "whatIs(0, 2)", -2, () -> x.whatIs(0, 2));
        Due.refuses(x, "whatIs(0, -1)", -2, () -> x.whatIs(0, -1));
        Due.refuses(x, "whatIs(-1, 0)", -1, () -> x.whatIs(-1, 0));
        rows(x);
        Due.is("KINDS by none", x.whatIs(0, 0), 63);
        Due.is("FIGURES by none", x.whatIs(0, 1), 1023);
        rows(x, 1, 2, 3, 4, 5, 6, 7, 8, 9, 10);
        Due.is("KINDS of weights as LOAD", x.whatIs(0, 0), 0b100001);
        Due.is("FIGURES of a WAY", x.whatIs(0, 1), 1023);
        Due.is("the ROW stays", x.count(3), 10);
        rows(x, 1, 2, 3, 4, 5, 6, 7, 8, 9, 11);
        Due.is("KINDS of none", x.whatIs(0, 0), 0);
        Due.is("FIGURES of none", x.whatIs(0, 1), 0);
        rows(x, 1, 1, 2, 2, 3, 3, 4, 4, 5, 5);
        Due.is("KINDS of a STILE", x.whatIs(0, 0), 0b000010);
        rows(x, 2, 2, 3, 3, 4, 4, 5, 5, 6, 6);
        Due.is("KINDS of a GATE", x.whatIs(0, 0), 0b010000);
        // FIGURE 0: a TOLL is as a ROAD.
        rows(x, 2, 4, 6, 8, 10, 12, 14, 16, 18, 20);
        Due.is("KINDS of a ROAD", x.whatIs(0, 0), 0b001100);
        rows(x, 1);
        Due.is("KINDS of 1", x.whatIs(0, 0), 0b100011);
        rows(x, 2);
        Due.is("KINDS of 2", x.whatIs(0, 0), 0b011100);
        rows(x, 1, 1, 1, 2);
        x.kind(0, 3, 6);
        Due.is("KINDS of a TOLL of 6", x.whatIs(0, 0), 0b001000);
        Due.is("FIGURES of a TOLL", x.whatIs(0, 1), 1 << 6);
        rows(x, 1, 1, 1);
        Due.is("FIGURES of a TOLL, 5 and more", x.whatIs(0, 1), 0b1111100000);
        rows(x, 2, 4);
        Due.is("FIGURES of a TOLL, 0", x.whatIs(0, 1), 1);
        x.kind(0, 4, 6);
        Due.is("FIGURES of a GATE, none", x.whatIs(0, 1), 0);
        rows(x, 2, 2);
        Due.is("FIGURES of a GATE, all", x.whatIs(0, 1), 1023);
    }

    private static void list() {
        WalkTimes x = new WalkTimes();
        Due.refuses(x, "list(3, 21)", -1, () -> x.list(3, 21));
        Due.refuses(x, "list(-1, -1)", -1, () -> x.list(-1, -1));
        Due.refuses(x, "list(0, 21)", -6, () -> x.list(0, 21));
        Due.refuses(x, "list(0, -1)", -14, () -> x.list(0, -1));
        Due.refuses(x, "put(0, 0, 1), still missing", -11, () -> x.put(0, 0, 1));
        Due.is("list(0, 20)", x.list(0, 20), 1);
        for (int i = 0; i < 20; i++) {
            Due.is("place " + i, x.look(0, i), 0);
            x.put(0, i, 100 + i);
        }
        Due.refuses(x, "list(0, -1)", -14, () -> x.list(0, -1));
        Due.refuses(x, "list(0, 21)", -6, () -> x.list(0, 21));
        Due.is("a refused one stays", x.look(0, 19), 119);
        Due.is("list(0, 0)", x.list(0, 0), 1);
        Due.refuses(x, "put(0, 0, 1) of none", -13, () -> x.put(0, 0, 1));
        Due.is("list(0, 5)", x.list(0, 5), 1);
        for (int i = 0; i < 5; i++) {
            Due.is("place " + i + " is 0 again", x.look(0, i), 0);
        }
        Due.is("list(2, 1)", x.list(2, 1), 1);
        Due.refuses(x, "LIST 1 is missing", -11, () -> x.put(1, 0, 1));
    }

    private static void putAndLook() {
        WalkTimes x = new WalkTimes();
        x.list(1, 3);
        Due.is("put(1, 2, least)", x.put(1, 2, Long.MIN_VALUE), 1);
        Due.is("put(1, 0, most)", x.put(1, 0, Long.MAX_VALUE), 1);
        Due.is("look(1, 2)", x.look(1, 2), Long.MIN_VALUE);
        Due.is("look(1, 1)", x.look(1, 1), 0);
        Due.is("look(1, 0)", x.look(1, 0), Long.MAX_VALUE);
        Due.refuses(x, "put(3, 0, 1)", -1, () -> x.put(3, 0, 1));
        Due.refuses(x, "put(-1, 0, 1)", -1, () -> x.put(-1, 0, 1));
        Due.refuses(x, "put(0, 9, 1)", -11, () -> x.put(0, 9, 1));
        Due.refuses(x, "put(1, 3, 1)", -13, () -> x.put(1, 3, 1));
        Due.refuses(x, "put(1, -1, 1)", -13, () -> x.put(1, -1, 1));
        Due.refusesLong(x, "look(3, 0)", -1, () -> x.look(3, 0));
        Due.refusesLong(x, "look(-1, 0)", -1, () -> x.look(-1, 0));
        Due.refusesLong(x, "look(0, 9)", -11, () -> x.look(0, 9));
        Due.refusesLong(x, "look(1, 3)", -13, () -> x.look(1, 3));
        Due.refusesLong(x, "look(1, -1)", -13, () -> x.look(1, -1));
    }

    /** 0 - 1 a FORD, 1 - 2 a TOLL: TIMES to 0 are 0, 34/3, 46/3; 3 is apart. */
    private static WalkTimes fordAndToll() {
        WalkTimes x = new WalkTimes();
        x.way(0, 1, 3, 2);
        x.kind(0, 5, 4);
        x.way(1, 2, 2, 7);
        x.kind(1, 3, 2);
        return x;
    }

    private static void holds(WalkTimes x, int list, long... want) {
        for (int i = 0; i < want.length; i++) {
            Due.is("look(" + list + ", " + i + ")", x.look(list, i), want[i]);
        }
    }

    private static void lays() {
        WalkTimes x = fordAndToll();
        x.list(0, 8);
        Due.is("lays(0, 0, 0)", x.lays(0, 0, 0), 4);
        holds(x, 0, 0, 1, 34, 3, 46, 3, 1, 0);
        Due.is("lays(0, 3, 0)", x.lays(0, 3, 0), 4);
        holds(x, 0, 1, 0, 1, 0, 1, 0, 0, 1);
        x.list(0, 12);
        x.put(0, 2, -5);
        Due.is("lays(0, 0, 3)", x.lays(0, 0, 3), 4);
        holds(x, 0, 0, 0, -5, 0, 1, 34, 3, 46, 3, 1, 0, 0);
        x.points(2);
        Due.is("lays(0, 1, 10)", x.lays(0, 1, 8), 2);
        holds(x, 0, 0, 0, -5, 0, 1, 34, 3, 46, 6, 1, 0, 1);
    }

    private static void laysNotAll() {
        Bound.refuses(RowsListsSlotsTest::fordAndToll, "lays(3, 0, 0)", -1, x -> x.lays(3, 0, 0));
        Bound.refuses(RowsListsSlotsTest::fordAndToll, "lays(-1, 0, 0)", -1, x -> x.lays(-1, 0, 0));
        Bound.refuses(RowsListsSlotsTest::fordAndToll, "lays(0, 4, 0)", -1, x -> x.lays(0, 4, 0));
        Bound.refuses(RowsListsSlotsTest::fordAndToll, "lays(0, -1, 0)", -1, x -> x.lays(0, -1, 0));
        Bound.refuses(RowsListsSlotsTest::fordAndToll, "lays(0, 0, 0)", -11, x -> x.lays(0, 0, 0));
        WalkTimes x = fordAndToll();
        x.list(0, 7);
        for (int i = 0; i < 7; i++) {
            x.put(0, i, 7);
        }
        Due.refuses(x, "lays(0, 0, -1)", -13, () -> x.lays(0, 0, -1));
        Due.refuses(x, "lays(0, 0, 7)", -13, () -> x.lays(0, 0, 7));
        Due.refuses(x, "lays(0, 0, most)", -13, () -> x.lays(0, 0, Integer.MAX_VALUE));
        Due.refuses(x, "lays(0, 0, least)", -13, () -> x.lays(0, 0, Integer.MIN_VALUE));
        holds(x, 0, 7, 7, 7, 7, 7, 7, 7);
        Due.refuses(x, "lays(0, 0, 4)", -13, () -> x.lays(0, 0, 4));
        holds(x, 0, 7, 7, 7, 7, 0, 1, 34);
        Due.refuses(x, "lays(0, 0, 0)", -13, () -> x.lays(0, 0, 0));
        holds(x, 0, 0, 1, 34, 3, 46, 3, 1);
    }

    private static void judge() {
        Bound.refuses(RowsListsSlotsTest::fordAndToll, "judge(3, 0)", -1, x -> x.judge(3, 0));
        Bound.refuses(RowsListsSlotsTest::fordAndToll, "judge(-1, 0)", -1, x -> x.judge(-1, 0));
        Bound.refuses(RowsListsSlotsTest::fordAndToll, "judge(1, 4)", -1, x -> x.judge(1, 4));
        Bound.refuses(RowsListsSlotsTest::fordAndToll, "judge(1, -1)", -1, x -> x.judge(1, -1));
        Bound.refuses(RowsListsSlotsTest::fordAndToll, "judge(1, 0)", -11, x -> x.judge(1, 0));
        WalkTimes x = fordAndToll();
        long[] times = {0, 1, 34, 3, 46, 3, 1, 0};
        for (int n = 0; n <= 10; n++) {
            x.list(1, n);
            for (int i = 0; i < n && i < times.length; i++) {
                x.put(1, i, times[i]);
            }
            Due.is("judge of " + n + " numbers", x.judge(1, 0), n < 8 ? 100 + n / 2 : -9);
            for (int i = 0; i < n && i < times.length; i++) {
                x.put(1, i, times[i] + 1);
                Due.is("judge of " + n + " numbers, " + i + " is otherwise", x.judge(1, 0), i / 2);
                x.put(1, i, times[i]);
            }
        }
        // The same fraction, but not in least terms, is otherwise.
        x.put(1, 2, 68);
        x.put(1, 3, 6);
        Due.is("judge of 68/6", x.judge(1, 0), 1);
        x.lays(1, 2, 0);
        Due.is("judge of what was laid", x.judge(1, 2), -9);
        x.lose(0);
        Due.is("judge when a WAY is gone", x.judge(1, 2), 0);
    }

    private static void slot() {
        WalkTimes x = new WalkTimes();
        Due.refuses(x, "slot(3, 6, 10)", -1, () -> x.slot(3, 6, 10));
        Due.refuses(x, "slot(-1, 6, -1)", -1, () -> x.slot(-1, 6, -1));
        Due.refuses(x, "slot(0, 6, 10)", -2, () -> x.slot(0, 6, 10));
        Due.refuses(x, "slot(0, -1, -1)", -2, () -> x.slot(0, -1, -1));
        Due.refuses(x, "slot(0, 0, 10)", -6, () -> x.slot(0, 0, 10));
        Due.refuses(x, "slot(0, 0, -1)", -14, () -> x.slot(0, 0, -1));
        Due.refuses(x, "still missing", -11, () -> x.slots(0, 0, -1));
        Due.is("slot(0, 5, 9)", x.slot(0, 5, 9), 1);
        for (int i = 0; i < 9; i++) {
            Due.is("empty place " + i, x.slotted(0, i, 1), -9);
        }
        Due.is("slot(1, 0, 0)", x.slot(1, 0, 0), 1);
        Due.refuses(x, "no place", -13, () -> x.slots(1, 0, -1));
        // Made again, all is empty again.
        x.way(0, 1, 4, 4);
        Due.is("slot(0, 0, 2)", x.slot(0, 0, 2), 1);
        Due.is("slots(0, 1, 0)", x.slots(0, 1, 0), 1);
        Due.is("slotted(0, 1, 3)", x.slotted(0, 1, 3), 3);
        Due.refuses(x, "slot(0, 0, -1)", -14, () -> x.slot(0, 0, -1));
        Due.is("a refused one stays", x.slotted(0, 1, 3), 3);
        Due.is("slot(0, 0, 3)", x.slot(0, 0, 3), 1);
        Due.is("slotted(0, 1, 3)", x.slotted(0, 1, 3), -9);
    }

    private static void slots() {
        WalkTimes x = new WalkTimes();
        x.way(0, 1, 4, 4);
        for (int made = 0; made < 6; made++) {
            x.slot(0, made, 1);
            for (int kind = 0; kind < 6; kind++) {
                x.kind(0, kind, 0);
                int due = (UNDER_EACH[made] >> kind & 1) == 1 ? 1 : -16;
                Due.is("KIND " + kind + " in a SLOT for " + made, x.slots(0, 0, 0), due);
                Due.is("it lies there", x.slotted(0, 0, 1) == -9 ? -16 : 1, due);
                Due.is("nothing in a SLOT for " + made, x.slots(0, 0, -1), 1);
                Due.is("nothing lies there", x.slotted(0, 0, 1), -9);
            }
        }
    }

    private static void slotsRefused() {
        WalkTimes x = new WalkTimes();
        x.way(0, 1, 4, 4);
        x.slot(0, 1, 2);
        Due.refuses(x, "slots(3, 0, 0)", -1, () -> x.slots(3, 0, 0));
        Due.refuses(x, "slots(-1, 0, 0)", -1, () -> x.slots(-1, 0, 0));
        Due.refuses(x, "slots(1, 0, 1)", -1, () -> x.slots(1, 0, 1));
        Due.refuses(x, "slots(1, 0, -2)", -1, () -> x.slots(1, 0, -2));
        Due.refuses(x, "slots(1, 9, 0)", -11, () -> x.slots(1, 9, 0));
        Due.refuses(x, "slots(0, 2, 0)", -13, () -> x.slots(0, 2, 0));
        Due.refuses(x, "slots(0, -1, -1)", -13, () -> x.slots(0, -1, -1));
        Due.refuses(x, "slots(0, 0, 0)", -16, () -> x.slots(0, 0, 0));
        x.kind(0, 4, 0);
        Due.is("slots(0, 0, 0) of a GATE", x.slots(0, 0, 0), 1);
        x.kind(0, 2, 0);
        Due.refuses(x, "slots(0, 0, 0) of a ROAD", -16, () -> x.slots(0, 0, 0));
        Due.is("the GATE still lies there", x.slotted(0, 0, 9), 6);
    }

    private static void slotted() {
        WalkTimes x = new WalkTimes();
        x.way(0, 1, 4, 4);
        x.kind(0, 3, 5);
        x.slot(2, 0, 2);
        x.slots(2, 1, 0);
        Due.is("slotted(2, 1, 9)", x.slotted(2, 1, 9), 13);
        Due.is("slotted(2, 1, 1)", x.slotted(2, 1, 1), 1);
        // As it was when laid, whatever becomes of it.
        x.kind(0, 1, 0);
        Due.is("slotted when its KIND is another", x.slotted(2, 1, 9), 13);
        x.lose(0);
        Due.is("slotted when it is gone", x.slotted(2, 1, 4), 3);
        Due.refuses(x, "slotted(3, 0, 0)", -1, () -> x.slotted(3, 0, 0));
        Due.refuses(x, "slotted(-1, 0, 10)", -1, () -> x.slotted(-1, 0, 10));
        Due.refuses(x, "slotted(0, 0, 0)", -4, () -> x.slotted(0, 0, 0));
        Due.refuses(x, "slotted(0, 0, 10)", -6, () -> x.slotted(0, 0, 10));
        Due.refuses(x, "slotted(0, 0, 9)", -11, () -> x.slotted(0, 0, 9));
        Due.refuses(x, "slotted(2, 2, 0)", -4, () -> x.slotted(2, 2, 0));
        Due.refuses(x, "slotted(2, 2, 1)", -13, () -> x.slotted(2, 2, 1));
        Due.refuses(x, "slotted(2, -1, 1)", -13, () -> x.slotted(2, -1, 1));
    }

    private static void like() {
        WalkTimes x = new WalkTimes();
        Due.refuses(x, "like(3, 0)", -1, () -> x.like(3, 0));
        Due.refuses(x, "like(0, 3)", -1, () -> x.like(0, 3));
        Due.refuses(x, "like(-1, 0)", -1, () -> x.like(-1, 0));
        Due.refuses(x, "like(0, -1)", -1, () -> x.like(0, -1));
        Due.refuses(x, "like(0, 1)", -11, () -> x.like(0, 1));
        x.way(0, 1, 4, 4);
        x.kind(0, 2, 0);
        x.slot(0, 2, 3);
        Due.refuses(x, "like(0, 1), it is there, the other one isn't", -11, () -> x.like(0, 1));
        x.slots(0, 2, 0);
        Due.is("like(1, 0)", x.like(1, 0), 3);
        Due.is("slotted(1, 2, 5)", x.slotted(1, 2, 5), 10);
        Due.is("slotted(1, 0, 5)", x.slotted(1, 0, 5), -9);
        x.slots(0, 2, -1);
        x.slots(1, 0, 0);
        Due.is("a row of its own", x.slotted(1, 2, 5), 10);
        Due.is("a row of its own", x.slotted(0, 0, 5), -9);
        x.kind(0, 0, 0);
        Due.refuses(x, "made for the same", -16, () -> x.slots(1, 1, 0));
        Due.is("like(1, 1)", x.like(1, 1), 3);
        Due.is("as it was", x.slotted(1, 2, 5), 10);
        x.slot(2, 0, 0);
        Due.is("like(1, 2)", x.like(1, 2), 0);
        Due.refuses(x, "no place", -13, () -> x.slotted(1, 0, 5));
    }
}
