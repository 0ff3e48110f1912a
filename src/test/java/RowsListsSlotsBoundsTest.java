import java.util.function.Supplier;

/** Promises 29 to 40 and the Terms of ROW, LISTS, TOLD TIMES and SLOTS: each sentence at its bounds. */
public final class RowsListsSlotsBoundsTest {
    private static final int LEAST = Product.LEAST;
    private static final int MOST = Product.MOST;
    private static final int[] NO_LIST = Product.no(-1, LEAST, -1, 3, MOST);
    private static final int[] NO_POINT = Product.no(-1, LEAST, -1, 5, MOST);
    /** TIMES to 0 of chain(), above and below the line. */
    private static final long[] TO_0 = {0, 1, 34, 3, 46, 3, 1, 0};

    public static void main(String[] args) {
        whatKind();
        rowsAtTheirEnds();
        whatIsRefused();
        row();
        clear();
        list();
        listRefused();
        put();
        look();
        lays();
        laysNotAll();
        laysRefused();
        judge();
        judgeRefused();
        slot();
        slots();
        slotted();
        asTheyWere();
        like();
        Due.end("RowsListsSlotsBoundsTest");
    }

    private static int weight(int kind, int figure, int load) {
        int half = load / 2 + load % 2;
        int[] weights = {load, half, 2 * load, Math.max(1, 2 * load - figure), half + 1, load};
        return weights[kind];
    }

    private static boolean isSo(int[] row, int kind, int figure) {
        for (int k = 0; k < row.length; k++) {
            if (row[k] != weight(kind, figure, k + 1)) {
                return false;
            }
        }
        return true;
    }

    /** By the ROW, of a WAY of each KIND and FIGURE. */
    private static void whatKind(int[] row) {
        WalkTimes x = Nets.plain(2, 1, 1);
        Nets.row(x, row);
        for (int kind = 0; kind <= 5; kind++) {
            for (int figure = 0; figure <= 9; figure++) {
                x.kind(1, kind, figure);
                int kinds = 0;
                for (int k = 0; k <= 5; k++) {
                    kinds |= isSo(row, k, figure) ? 1 << k : 0;
                }
                int figures = 0;
                for (int f = 0; f <= 9; f++) {
                    figures |= isSo(row, kind, f) ? 1 << f : 0;
                }
                String text = " of KIND " + kind + ", FIGURE " + figure + " by " + java.util.Arrays.toString(row);
                Due.is("KINDS" + text, x.whatIs(1, 0), kinds);
                Due.is("FIGURES" + text, x.whatIs(1, 1), figures);
            }
        }
        Due.is("the ROW stays", x.count(3), row.length);
    }

    private static void whatKind() {
        Due.sentence(0, "WHAT KIND of a WAY: a ROW (numbers 0 .. 99; 10 at most) tells WEIGHT, were LOAD 1, 2, .. 10"
            + " (as many as it tells; of none all is so): KINDS (bits) by which, FIGURE as it is, all of it is so;"
            + " FIGURES (bits 0 .. 9) by which, KIND as it is.");
        for (int kind = 0; kind <= 5; kind++) {
            for (int figure = 0; figure <= 9; figure++) {
                for (int n = 0; n <= 10; n++) {
                    int[] row = new int[n];
                    for (int k = 0; k < n; k++) {
                        row[k] = weight(kind, figure, k + 1);
                    }
                    whatKind(row);
                    if (n > 0) {
                        row[n - 1]++;
                        whatKind(row);
                    }
                }
            }
        }
        whatKind(new int[] {0});
        whatKind(new int[] {99});
    }

    private static void rowsAtTheirEnds() {
        Due.sentence(29, "WHAT KIND by the ROW (it stays): KINDS (what 0), FIGURES (1), bits.");
        Supplier<WalkTimes> none = () -> Nets.plain(2, 1);
        Bound.asks(none, "KINDS by none", 0b111111, x -> x.whatIs(0, 0));
        Bound.asks(none, "FIGURES by none", 0b1111111111, x -> x.whatIs(0, 1));
        // The tenth number is told of LOAD 10.
        Supplier<WalkTimes> ten = () -> rowOf(1, 2, 3, 4, 5, 6, 7, 8, 9, 10);
        Bound.asks(ten, "KINDS by ten", 0b100001, x -> x.whatIs(0, 0));
        Bound.asks(ten, "FIGURES by ten", 0b1111111111, x -> x.whatIs(0, 1));
        Supplier<WalkTimes> other = () -> rowOf(1, 2, 3, 4, 5, 6, 7, 8, 9, 9);
        Bound.asks(other, "KINDS by ten, the tenth is otherwise", 0, x -> x.whatIs(0, 0));
        Bound.asks(other, "FIGURES by ten, the tenth is otherwise", 0, x -> x.whatIs(0, 1));
        Supplier<WalkTimes> toll = () -> {
            WalkTimes x = rowOf(1, 1, 1);
            x.kind(0, 3, 0);
            return x;
        };
        Bound.asks(toll, "FIGURES of a TOLL that is 1 to LOAD 3", 0b1111100000, x -> x.whatIs(0, 1));
        Bound.asks(toll, "KINDS with FIGURE 0", 0, x -> x.whatIs(0, 0));
    }

    private static WalkTimes rowOf(int... numbers) {
        WalkTimes x = Nets.plain(2, 1);
        Nets.row(x, numbers);
        return x;
    }

    private static void whatIsRefused() {
        Due.sentence(29, "-1; -2.");
        Product.Call call = (x, v) -> x.whatIs(v[0], v[1]);
        Product.ofInts(Nets::rich, "whatIs", call)
            .argument(Product.good(0, 3), Product.no(-1, LEAST, -1, 4, MOST))
            .argument(Product.good(0, 1), Product.no(-2, LEAST, -1, 2, MOST)).inOrder(-1, -2);
        Product.ofInts(Nets::full, "whatIs", call)
            .argument(Product.good(9), Product.no(-1, 10))
            .argument(Product.good(0, 1), Product.no(-2, -1, 2)).inOrder(-1, -2);
        Bound.refuses(Nets::empty, "whatIs(0, 2) without WAYS", -1, x -> x.whatIs(0, 2));
    }

    private static void row() {
        Due.sentence(30, "A number more of the ROW (0 .. 99): how many.");
        for (int v = 0; v <= 99; v++) {
            int number = v;
            Bound.takes(Nets::empty, "row(" + v + ")", 1, x -> x.row(number));
            Bound.takes(Nets::rich, "row(" + v + ") behind 3", 4, x -> x.row(number));
        }
        WalkTimes x = new WalkTimes();
        for (int n = 1; n <= 10; n++) {
            Due.is("row " + n, x.row(99), n);
            Due.is("count(3) behind row " + n, x.count(3), n);
        }
        Due.sentence(30, "-4; -6 (99; 10, too).");
        Product.ofInts(Nets::rich, "row", (y, v) -> y.row(v[0]))
            .argument(Product.good(0, 99), Product.no(-4, LEAST, -1), Product.no(-6, 100, MOST)).inOrder(-4, -6);
        Product.ofInts(Nets::full, "row of 10", (y, v) -> y.row(v[0]))
            .argument(Product.no(-4, LEAST, -1), Product.no(-6, 0, 1, 99, 100, MOST)).inOrder(-4, -6);
        Bound.takes(() -> rowOf(1, 2, 3, 4, 5, 6, 7, 8, 9), "row 10", 10, y -> y.row(10));
    }

    private static void clear() {
        Due.sentence(31, "The ROW has none then: how many it had.");
        for (int n = 0; n <= 10; n++) {
            WalkTimes x = new WalkTimes();
            for (int k = 0; k < n; k++) {
                x.row(k);
            }
            Due.is("clear() of " + n, x.clear(), n);
            Due.is("count(3) behind clear()", x.count(3), 0);
            Due.is("clear() again", x.clear(), 0);
        }
        WalkTimes x = Nets.full();
        Due.is("clear() of a full one", x.clear(), 10);
        Due.is("whatIs(0, 0) by none", x.whatIs(0, 0), 63);
        Due.is("row(5) behind it", x.row(5), 1);
        Bound.takes(Nets::rich, "clear()", 3, WalkTimes::clear);
    }

    private static void list() {
        Due.sentence(0, "LISTS 0 .. 2 are rows of longs (20 at most), missing at first.");
        for (int list = 0; list <= 2; list++) {
            int l = list;
            Bound.refusesLong(Nets::empty, "look(" + list + ", 0) of a new object", -11, x -> x.look(l, 0));
            Bound.refuses(Nets::empty, "put(" + list + ", 0, 0) of a new object", -11, x -> x.put(l, 0, 0));
            Bound.takes(Nets::empty, "list(" + list + ", 20)", 1, x -> x.list(l, 20));
        }
        Due.sentence(32, "A LIST becomes a row of n longs, all 0: 1.");
        for (int n = 0; n <= 20; n++) {
            WalkTimes x = Nets.full();
            Due.is("list(0, " + n + ")", x.list(0, n), 1);
            Due.said("LIST of " + n, Bound.list(x, 0), "0 ".repeat(n) + "4000000000000000013 ");
            Due.is("list(0, 20)", x.list(0, 20), 1);
            Due.said("LIST of 20 behind one of " + n, Bound.list(x, 0), "0 ".repeat(20) + "4000000000000000013 ");
            Due.said("LIST 1 is still missing", Bound.list(x, 1), "4000000000000000011 ");
        }
    }

    private static void listRefused() {
        Due.sentence(32, "-1; -6 20; -14.");
        Product.ofInts(Nets::rich, "list", (x, v) -> x.list(v[0], v[1]))
            .argument(Product.good(0, 1, 2), NO_LIST)
            .argument(Product.good(0, 20), Product.no(-6, 21, MOST), Product.no(-14, LEAST, -1)).inOrder(-1, -6, -14);
        Product.ofInts(Nets::full, "list", (x, v) -> x.list(v[0], v[1]))
            .argument(Product.good(0), Product.no(-1, -1, 3))
            .argument(Product.good(0, 20), Product.no(-6, 21), Product.no(-14, -1)).inOrder(-1, -6, -14);
    }

    private static void put() {
        Due.sentence(33, "Place i of a LIST becomes v: 1.");
        long[] values = {Long.MIN_VALUE, -1, 0, 1, 4000000000000000011L, Long.MAX_VALUE};
        for (long v : values) {
            for (int i = 0; i < 20; i++) {
                WalkTimes x = Nets.full();
                Due.is("put(0, " + i + ", " + v + ")", x.put(0, i, v), 1);
                for (int k = 0; k < 20; k++) {
                    Due.is("look(0, " + k + ")", x.look(0, k), k == i ? v : k + 1);
                }
            }
        }
        Due.sentence(33, "-1; -11; -13.");
        Product.Call call = (x, v) -> x.put(v[0], v[1], 77);
        Product.ofInts(Nets::rich, "put", call)
            .argument(Product.good(0), Product.no(-11, 1), NO_LIST)
            .argument(Product.good(0, 2), Product.no(-13, LEAST, -1, 3, MOST)).inOrder(-1, -11, -13);
        Product.ofInts(Nets::rich, "put, no places", call)
            .argument(Product.good(2)).argument(Product.no(-13, LEAST, -1, 0, 1, MOST)).inOrder(-13);
        Product.ofInts(Nets::full, "put", call)
            .argument(Product.good(0), Product.no(-11, 1, 2), Product.no(-1, 3))
            .argument(Product.good(0, 19), Product.no(-13, -1, 20)).inOrder(-1, -11, -13);
    }

    private static void look() {
        Due.sentence(34, "Place i of a LIST.");
        for (int i = 0; i < 20; i++) {
            int place = i;
            Bound.asks(Nets::full, "look(0, " + i + ")", i + 1, x -> x.look(0, place));
        }
        Bound.asks(Nets::rich, "look(0, 0)", 0, x -> x.look(0, 0));
        Bound.asks(Nets::rich, "look(0, 1)", -7, x -> x.look(0, 1));
        Bound.asks(Nets::rich, "look(0, 2)", Long.MIN_VALUE, x -> x.look(0, 2));
        Due.sentence(34, "Refused as told: -1; -11; -13.");
        Product.Call call = (x, v) -> x.look(v[0], v[1]);
        Product.ofLongs(Nets::rich, "look", call)
            .argument(Product.good(0), Product.no(-11, 1), NO_LIST)
            .argument(Product.good(0, 2), Product.no(-13, LEAST, -1, 3, MOST)).inOrder(-1, -11, -13);
        Product.ofLongs(Nets::rich, "look, no places", call)
            .argument(Product.good(2)).argument(Product.no(-13, LEAST, -1, 0, 1, MOST)).inOrder(-13);
        Product.ofLongs(Nets::full, "look", call)
            .argument(Product.good(0), Product.no(-11, 1, 2), Product.no(-1, 3))
            .argument(Product.good(0, 19), Product.no(-13, -1, 20)).inOrder(-1, -11, -13);
    }

    /** 0 - 1 a FORD, 1 - 2 a TOLL, 3 apart, and a LIST 1 of so many numbers, all of them 7. */
    private static WalkTimes chain(int places) {
        WalkTimes x = Nets.of(4, Nets.way(0, 1, 3, 2, 5, 4), Nets.way(1, 2, 2, 7, 3, 2));
        x.list(1, places);
        for (int i = 0; i < places; i++) {
            x.put(1, i, 7);
        }
        return x;
    }

    private static String laid(int places, int from, int many) {
        StringBuilder text = new StringBuilder();
        for (int i = 0; i < places; i++) {
            text.append(i >= from && i < from + many ? TO_0[i - from] : 7).append(' ');
        }
        return text.append("4000000000000000013 ").toString();
    }

    private static void lays() {
        Due.sentence(35, "TIMES to b are laid into a LIST, POINT by POINT, above, then below the line (1, 0: none),"
            + " from place i on: how many POINTS.");
        for (int places = 8; places <= 20; places++) {
            for (int i = 0; i <= places - 8; i++) {
                WalkTimes x = chain(places);
                Due.is("lays(1, 0, " + i + ") of " + places, x.lays(1, 0, i), 4);
                Due.said("LIST behind lays(1, 0, " + i + ")", Bound.list(x, 1), laid(places, i, 8));
            }
        }
        WalkTimes x = chain(8);
        Due.is("lays(1, 3, 0), none of the others", x.lays(1, 3, 0), 4);
        Due.said("LIST", Bound.list(x, 1), "1 0 1 0 1 0 0 1 4000000000000000013 ");
        for (int p = 2; p <= 6; p++) {
            WalkTimes y = Nets.of(p);
            y.list(2, 2 * p);
            Due.is("lays(2, 0, 0) of " + p + " POINTS", y.lays(2, 0, 0), p);
            Due.said("LIST", Bound.list(y, 2), "0 1 " + "1 0 ".repeat(p - 1) + "4000000000000000013 ");
            Due.is("lays(2, P less 1, 0) of " + p + " POINTS", y.lays(2, p - 1, 0), p);
            Due.said("LIST", Bound.list(y, 2), "1 0 ".repeat(p - 1) + "0 1 4000000000000000013 ");
        }
        WalkTimes six = Nets.tenWays();
        six.list(0, 20);
        Due.is("lays(0, 5, 8), the last places", six.lays(0, 5, 8), 6);
        Due.is("place 18", six.look(0, 18), 0);
        Due.is("place 19", six.look(0, 19), 1);
        Bound.takes(() -> chain(8), "lays(1, 0, 0)", 4, y -> y.lays(1, 0, 0));
    }

    private static void laysNotAll() {
        Due.sentence(35, "-13: not all of it had a place (what had one ahead of the first that had none is laid).");
        int[] nowhere = {LEAST, LEAST + 1, -9, -8, -2, -1, 20, 21, MOST - 8, MOST - 1, MOST};
        for (int places = 0; places <= 20; places++) {
            for (int i = Math.max(0, places - 7); i <= places + 1; i++) {
                WalkTimes x = chain(places);
                int[] counts = Due.refusals(x);
                Due.is("lays(1, 0, " + i + ") of " + places, x.lays(1, 0, i), -13);
                Due.said("LIST behind lays(1, 0, " + i + ")", Bound.list(x, 1), laid(places, i, Math.max(0, places - i)));
                Due.said("REFUSALS", java.util.Arrays.toString(Due.refusals(x)), java.util.Arrays.toString(counts));
            }
            for (int i : nowhere) {
                int n = places;
                Bound.refuses(() -> chain(n), "lays(1, 0, " + i + ") of " + n, -13, x -> x.lays(1, 0, i));
            }
        }
    }

    private static void laysRefused() {
        Due.sentence(35, "-1 either; -11; -13");
        Product.ofInts(Nets::rich, "lays", (x, v) -> x.lays(v[0], v[1], v[2]))
            .argument(Product.no(-11, 1), NO_LIST)
            .argument(Product.good(0, 4), NO_POINT)
            .argument(Product.no(-13, LEAST, -1, 0, 1, 20, MOST)).inOrder(-1, -11, -13);
        Product.ofInts(Nets::rich, "lays, no places", (x, v) -> x.lays(v[0], v[1], v[2]))
            .argument(Product.good(2), NO_LIST)
            .argument(Product.good(0, 4), NO_POINT)
            .argument(Product.no(-13, LEAST, -1, 0, 1, 20, MOST)).inOrder(-1, -11, -13);
        Product.ofInts(Nets::full, "lays", (x, v) -> x.lays(v[0], v[1], v[2]))
            .argument(Product.good(0), Product.no(-11, 1, 2), Product.no(-1, 3))
            .argument(Product.good(5), Product.no(-1, 6))
            .argument(Product.good(0, 8), Product.no(-13, -1, 20)).inOrder(-1, -11, -13);
    }

    private static WalkTimes told(int places, int otherwise) {
        WalkTimes x = chain(places);
        for (int i = 0; i < places && i < 8; i++) {
            x.put(1, i, TO_0[i] + (i == otherwise ? 1 : 0));
        }
        return x;
    }

    private static void judge() {
        Due.sentence(0, "TOLD TIMES: a LIST of longs tells for POINTS 0, 1, .. TIME to b, above, then below the line"
            + " (from place 0 on, number by number; a POINT that doesn't REACH b: 1, 0):");
        Bound.asks(() -> told(8, -1), "judge(1, 0)", -9, x -> x.judge(1, 0));
        Bound.asks(() -> told(20, -1), "judge(1, 0) of more", -9, x -> x.judge(1, 0));
        // The same fraction, but not in least terms; none told by other numbers.
        Bound.asks(() -> with(2, 68, 3, 6), "judge(1, 0), 68/6", 1, x -> x.judge(1, 0));
        Bound.asks(() -> with(0, 0, 1, 2), "judge(1, 0), 0/2", 0, x -> x.judge(1, 0));
        Bound.asks(() -> with(2, -34, 3, -3), "judge(1, 0), -34/-3", 1, x -> x.judge(1, 0));
        Bound.asks(() -> with(6, 0, 7, 0), "judge(1, 0), 0/0 for none", 3, x -> x.judge(1, 0));
        Bound.asks(() -> with(6, 2, 7, 0), "judge(1, 0), 2/0 for none", 3, x -> x.judge(1, 0));
        Due.sentence(0, "JUDGED: the first POINT of which it is otherwise; -9; 100 and how many whole POINTS were as"
            + " they are, if the list ends ahead of that (also between both numbers of one).");
        for (int places = 0; places <= 20; places++) {
            int n = places;
            String of = "judge(1, 0) of " + n + " numbers";
            Bound.asks(() -> told(n, -1), of, n < 8 ? 100 + n / 2 : -9, x -> x.judge(1, 0));
            for (int k = 0; k < 8; k++) {
                int i = k;
                int want = i < n ? i / 2 : n < 8 ? 100 + n / 2 : -9;
                Bound.asks(() -> told(n, i), of + ", " + i + " is otherwise", want, x -> x.judge(1, 0));
            }
        }
        Due.sentence(36, "JUDGED; -9.");
        Bound.asks(() -> Nets.rich(), "judge(0, 0) of 0, -7, ..", 0, x -> x.judge(0, 0));
        Bound.asks(() -> Nets.rich(), "judge(2, 0) of no numbers", 100, x -> x.judge(2, 0));
        for (int b = 0; b < 6; b++) {
            WalkTimes x = Nets.tenWays();
            x.list(0, 12);
            x.lays(0, b, 0);
            for (int other = 0; other < 6; other++) {
                Due.is("judge(0, " + other + ") of TIMES to " + b, x.judge(0, other), other == b ? -9 : 0);
            }
        }
    }

    private static WalkTimes with(int i, long v, int k, long w) {
        WalkTimes x = told(8, -1);
        x.put(1, i, v);
        x.put(1, k, w);
        return x;
    }

    private static void judgeRefused() {
        Due.sentence(36, "-1 either; -11.");
        Product.ofInts(Nets::rich, "judge", (x, v) -> x.judge(v[0], v[1]))
            .argument(Product.good(0, 2), Product.no(-11, 1), NO_LIST)
            .argument(Product.good(0, 4), NO_POINT).inOrder(-1, -11);
        Product.ofInts(Nets::full, "judge", (x, v) -> x.judge(v[0], v[1]))
            .argument(Product.good(0), Product.no(-11, 1, 2), Product.no(-1, 3))
            .argument(Product.good(0, 5), Product.no(-1, 6)).inOrder(-1, -11);
    }

    private static void slot() {
        Due.sentence(0, "SLOTS 0 .. 2 are rows for WAYS (as they were when laid), each made for a KIND and those under"
            + " it; missing at first.");
        for (int slot = 0; slot <= 2; slot++) {
            int s = slot;
            Bound.refuses(Nets::empty, "slots(" + slot + ", 0, -1) of a new object", -11, x -> x.slots(s, 0, -1));
            Bound.refuses(Nets::empty, "slotted(" + slot + ", 0, 1) of a new object", -11, x -> x.slotted(s, 0, 1));
            Bound.takes(Nets::empty, "slot(" + slot + ", 5, 9)", 1, x -> x.slot(s, 5, 9));
        }
        Due.sentence(37, "A SLOT becomes a row of n (all empty) made for a KIND: 1.");
        for (int kind = 0; kind <= 5; kind++) {
            for (int n = 0; n <= 9; n++) {
                WalkTimes x = Nets.full();
                Due.is("slot(0, " + kind + ", " + n + ")", x.slot(0, kind, n), 1);
                for (int i = 0; i <= 9; i++) {
                    Due.is("place " + i + " of " + n, x.slotted(0, i, 1), i < n ? -9 : -13);
                }
                // Of all KINDS, 1 is a STILE and 4 a GATE.
                Due.is("a STILE in it", x.slots(0, 0, 1), n == 0 ? -13 : kind <= 1 ? 1 : -16);
                Due.is("a GATE in it", x.slots(0, 0, 4), n == 0 ? -13 : kind <= 1 || kind == 4 ? 1 : -16);
            }
        }
        Due.sentence(37, "-1; -2; -6 9; -14.");
        Product.ofInts(Nets::rich, "slot", (x, v) -> x.slot(v[0], v[1], v[2]))
            .argument(Product.good(0, 1, 2), NO_LIST)
            .argument(Product.good(0, 5), Product.no(-2, LEAST, -1, 6, MOST))
            .argument(Product.good(0, 9), Product.no(-6, 10, MOST), Product.no(-14, LEAST, -1))
            .inOrder(-1, -2, -6, -14);
        Product.ofInts(Nets::full, "slot", (x, v) -> x.slot(v[0], v[1], v[2]))
            .argument(Product.good(0), Product.no(-1, -1, 3))
            .argument(Product.good(0, 5), Product.no(-2, -1, 6))
            .argument(Product.good(0, 9), Product.no(-6, 10), Product.no(-14, -1)).inOrder(-1, -2, -6, -14);
    }

    private static void slots() {
        Due.sentence(38, "A WAY (-1: nothing) is laid into place i of a SLOT: 1.");
        for (int i = 0; i < 9; i++) {
            WalkTimes x = Nets.full();
            Due.is("slots(0, " + i + ", 9)", x.slots(0, i, 9), 1);
            Due.is("slotted(0, " + i + ", 9)", x.slotted(0, i, 9), 18);
            Due.is("slots(0, " + i + ", -1)", x.slots(0, i, -1), 1);
            for (int k = 0; k < 9; k++) {
                int want = k == i ? -9 : weight(k % 6, 9 - k, 9);
                Due.is("slotted(0, " + k + ", 9)", x.slotted(0, k, 9), want);
            }
            Due.is("nothing once more", x.slots(0, i, -1), 1);
        }
        Due.sentence(38, "-1 (either); -11; -13; -16.");
        Product.Call call = (x, v) -> x.slots(v[0], v[1], v[2]);
        int[] noPlace = Product.no(-13, LEAST, -1, 2, MOST);
        int[] noWay = Product.no(-1, LEAST, -2, 4, MOST);
        // SLOT 0 is made for ROADS; WAY 1 is a TOLL.
        Product.ofInts(Nets::rich, "slots", call)
            .argument(Product.good(0), Product.no(-11, 1), NO_LIST)
            .argument(Product.good(0, 1), noPlace)
            .argument(Product.good(-1, 1), Product.no(-16, 0, 2, 3), noWay).inOrder(-1, -11, -13, -16);
        Product.ofInts(Nets::rich, "slots, no places", call)
            .argument(Product.good(2))
            .argument(Product.no(-13, LEAST, -1, 0, 1, MOST))
            .argument(Product.good(-1), Product.no(-16, 0, 1, 2), noWay).inOrder(-1, -11, -13, -16);
        Product.ofInts(Nets::full, "slots", call)
            .argument(Product.good(0), Product.no(-11, 1, 2), Product.no(-1, 3))
            .argument(Product.good(0, 8), Product.no(-13, -1, 9))
            .argument(Product.good(-1, 0, 9), Product.no(-1, -2, 10)).inOrder(-1, -11, -13, -16);
        Bound.refuses(RowsListsSlotsBoundsTest::slotAlone, "slots(0, 0, 0) without WAYS", -1, x -> x.slots(0, 0, 0));
        Bound.takes(RowsListsSlotsBoundsTest::slotAlone, "slots(0, 0, -1) without WAYS", 1, x -> x.slots(0, 0, -1));
    }

    private static WalkTimes slotAlone() {
        WalkTimes x = new WalkTimes();
        x.slot(0, 0, 1);
        return x;
    }

    private static void slotted() {
        Due.sentence(39, "WEIGHT, were LOAD v, of what lies in place i of a SLOT; -9: nothing.");
        for (int kind = 0; kind <= 5; kind++) {
            for (int figure = 0; figure <= 9; figure++) {
                WalkTimes x = Nets.of(2, Nets.way(0, 1, 5, 5, kind, figure));
                x.slot(2, kind, 9);
                x.slots(2, 8, 0);
                for (int v = 1; v <= 9; v++) {
                    Due.is("slotted(2, 8, " + v + ") of KIND " + kind + ", FIGURE " + figure,
                        x.slotted(2, 8, v), weight(kind, figure, v));
                    Due.is("slotted(2, 7, " + v + ")", x.slotted(2, 7, v), -9);
                }
            }
        }
        Bound.asks(Nets::rich, "slotted(0, 0, 9)", -9, x -> x.slotted(0, 0, 9));
        Bound.asks(Nets::rich, "slotted(0, 1, 9)", 16, x -> x.slotted(0, 1, 9));
        Due.sentence(39, "-1; -4 (v below 1); -6 9; -11; -13.");
        Product.Call call = (x, v) -> x.slotted(v[0], v[1], v[2]);
        Product.ofInts(Nets::rich, "slotted", call)
            .argument(Product.good(0), Product.no(-11, 1), NO_LIST)
            .argument(Product.good(0, 1), Product.no(-13, LEAST, -1, 2, MOST))
            .argument(Product.good(1, 9), Product.no(-4, LEAST, -1, 0), Product.no(-6, 10, MOST))
            .inOrder(-1, -4, -6, -11, -13);
        Product.ofInts(Nets::rich, "slotted, no places", call)
            .argument(Product.good(2))
            .argument(Product.no(-13, LEAST, -1, 0, 1, MOST))
            .argument(Product.good(1, 9), Product.no(-4, 0), Product.no(-6, 10)).inOrder(-1, -4, -6, -11, -13);
        Product.ofInts(Nets::full, "slotted", call)
            .argument(Product.good(0), Product.no(-11, 1, 2), Product.no(-1, 3))
            .argument(Product.good(0, 8), Product.no(-13, -1, 9))
            .argument(Product.good(1, 9), Product.no(-4, 0), Product.no(-6, 10)).inOrder(-1, -4, -6, -11, -13);
    }

    private static void asTheyWere() {
        Due.sentence(0, "rows for WAYS (as they were when laid)");
        WalkTimes x = Nets.of(4, Nets.way(3, 2, 5, 5, 3, 7));
        x.slot(1, 3, 1);
        x.slots(1, 0, 0);
        Due.is("slotted(1, 0, 9)", x.slotted(1, 0, 9), 11);
        x.kind(0, 3, 2);
        Due.is("when FIGURE is another", x.slotted(1, 0, 9), 11);
        x.kind(0, 1, 2);
        Due.is("when KIND is another", x.slotted(1, 0, 9), 11);
        x.load(0, 1);
        Due.is("when LOAD is another", x.slotted(1, 0, 9), 11);
        x.image();
        x.points(2);
        Due.is("when its POINTS are no more", x.slotted(1, 0, 9), 11);
        x.on();
        Due.is("behind on()", x.slotted(1, 0, 9), 11);
        x.lose(0);
        Due.is("when it is gone", x.slotted(1, 0, 9), 11);
        x.way(0, 1, 1, 1);
        Due.is("when another one has its number", x.slotted(1, 0, 9), 11);
    }

    private static void like() {
        Due.sentence(40, "A SLOT becomes a row like another one, as that is now: its size.");
        for (int n = 0; n <= 9; n++) {
            WalkTimes x = Nets.full();
            x.slot(1, 3, n);
            // Nine places become n ones, made for TOLLS, all empty; WAY 3 is a TOLL, WAY 2 a ROAD.
            Due.is("like(0, 1) of " + n, x.like(0, 1), n);
            for (int i = 0; i <= 9; i++) {
                Due.is("place " + i + " of " + n, x.slotted(0, i, 9), i < n ? -9 : -13);
            }
            Due.is("a ROAD in it", x.slots(0, 0, 2), n == 0 ? -13 : -16);
            Due.is("a TOLL in it", x.slots(0, 0, 3), n == 0 ? -13 : 1);
            Due.is("the other one stays empty", x.slotted(1, 0, 9), n == 0 ? -13 : -9);
        }
        WalkTimes x = Nets.full();
        Due.is("like(2, 0), missing ahead", x.like(2, 0), 9);
        Due.is("slots(0, 8, -1)", x.slots(0, 8, -1), 1);
        Due.is("slots(2, 0, -1)", x.slots(2, 0, -1), 1);
        for (int i = 0; i < 9; i++) {
            int want = weight(i % 6, 9 - i, 9);
            Due.is("place " + i + " as it was then", x.slotted(2, i, 9), i == 0 ? -9 : want);
            Due.is("place " + i + " of the other one", x.slotted(0, i, 9), i == 8 ? -9 : want);
        }
        Bound.asks(Nets::rich, "like(0, 0)", 2, y -> y.like(0, 0));
        Bound.asks(Nets::rich, "like(2, 2)", 0, y -> y.like(2, 2));
        Due.sentence(40, "-1 either; -11 the other.");
        Product.ofInts(Nets::rich, "like", (y, v) -> y.like(v[0], v[1]))
            .argument(Product.good(0, 1, 2), NO_LIST)
            .argument(Product.good(0, 2), Product.no(-11, 1), NO_LIST).inOrder(-1, -11);
        Product.ofInts(Nets::empty, "like", (y, v) -> y.like(v[0], v[1]))
            .argument(Product.good(0, 1, 2), Product.no(-1, -1, 3))
            .argument(Product.no(-11, 0, 1, 2), Product.no(-1, -1, 3)).inOrder(-1, -11);
    }
}
