import java.util.Arrays;
import java.util.function.Supplier;

/** Promises 41 to 43 and the Terms of THE IMAGE and REFUSALS: each sentence at its bounds. */
public final class ImageAndCountBoundsTest {
    private static final int LEAST = Product.LEAST;
    private static final int MOST = Product.MOST;
    private static final long LONGS = 4000000000000000000L;

    public static void main(String[] args) {
        image();
        on();
        onRefused();
        nothingElse();
        counts();
        countsOfAll();
        sets();
        countedRefusals();
        otherWhat();
        refusals();
        refusalsOfLongs();
        notCounted();
        firstThatFits();
        lastCall();
        Due.end("ImageAndCountBoundsTest");
    }

    private static void image() {
        Due.sentence(41, "THE IMAGE is taken: how many WAYS.");
        Bound.takes(Nets::empty, "image()", 0, WalkTimes::image);
        Bound.takes(Nets::rich, "image()", 4, WalkTimes::image);
        Bound.takes(Nets::full, "image()", 10, WalkTimes::image);
        // Taken again, it is the new one.
        WalkTimes x = Nets.rich();
        x.points(2);
        Due.is("image() again", x.image(), 1);
        x.points(6);
        x.lose(0);
        Due.is("on()", x.on(), 1);
        Due.said("the state", Due.state(x), "2 1 19 3 3 1 ; 0 1 5 4 3 2 3 6 ");
        Due.sentence(0, "THE IMAGE: P, WAYS with all that is theirs; ON from it these are as then.");
        asThen(Nets::empty);
        asThen(Nets::rich);
        asThen(Nets::tenWays);
    }

    private static void asThen(Supplier<WalkTimes> made) {
        for (int change = 0; change < 8; change++) {
            WalkTimes x = made.get();
            x.tells();
            String before = Due.state(x);
            int ways = x.image();
            change(x, change);
            Due.is("on() behind change " + change, x.on(), ways);
            Due.said("the state behind on()", Due.state(x), before);
            for (int all = 0; all < 8; all++) {
                change(x, all);
            }
            Due.is("on() behind all changes", x.on(), ways);
            Due.said("the state behind on()", Due.state(x), before);
        }
    }

    private static void change(WalkTimes x, int change) {
        switch (change) {
            case 0: x.kind(0, 5, 9); break;
            case 1: x.load(0, 9); break;
            case 2: x.length(0, 9); break;
            case 3: x.lose(0); break;
            case 4: x.way(0, 1, 7, 7); break;
            case 5: x.points(6); break;
            case 6: x.points(2); break;
            default:
                Nets.letters(x, "points 3;way 1 2 9 9;load 0 1;");
                x.tells();
                break;
        }
    }

    private static void on() {
        Due.sentence(42, "ON from it: how many WAYS.");
        Bound.takes(Nets::rich, "on()", 4, WalkTimes::on);
        Bound.takes(Nets::full, "on()", 10, WalkTimes::on);
        WalkTimes x = new WalkTimes();
        Due.is("image() of none", x.image(), 0);
        x.way(0, 1, 1, 1);
        Due.is("on() to none", x.on(), 0);
        Due.said("the state", Due.state(x), "4 0 0 0 0 4 ");
        // Ten WAYS again, and an eleventh has no room.
        WalkTimes full = Nets.full();
        full.points(2);
        Due.is("on() to ten", full.on(), 10);
        Due.is("an eleventh", full.way(0, 1, 1, 1), -6);
        full.lose(0);
        Due.is("on() once more", full.on(), 10);
    }

    private static void onRefused() {
        Due.sentence(42, "-3 there is none.");
        Bound.refuses(Nets::empty, "on()", -3, WalkTimes::on);
        Bound.refuses(Nets::tenWays, "on() of ten WAYS", -3, WalkTimes::on);
        WalkTimes x = new WalkTimes();
        Due.is("on()", x.on(), -3);
        Due.is("on() again", x.on(), -3);
        Due.is("count(13)", x.count(13), 2);
        Due.is("image()", x.image(), 0);
        Due.is("on() of an IMAGE of no WAYS", x.on(), 0);
        Due.is("count(13)", x.count(13), 2);
    }

    /** All but POINTS and WAYS is no part of THE IMAGE. */
    private static void nothingElse() {
        Due.sentence(42, "ON from it");
        WalkTimes x = Nets.rich();
        int[] counts = Due.refusals(x);
        x.image();
        x.letter(';');
        x.row(7);
        x.put(0, 0, 5);
        x.list(1, 1);
        x.slots(0, 0, 1);
        x.slot(1, 0, 1);
        x.lose(-1);
        Due.is("on()", x.on(), 4);
        Due.is("letters", x.count(2), 20);
        Due.is("the ROW", x.count(3), 4);
        Due.is("LIST 0", x.look(0, 0), 5);
        Due.is("LIST 1", x.look(1, 0), 0);
        Due.is("SLOT 0", x.slotted(0, 0, 9), 16);
        Due.is("SLOT 1", x.slotted(1, 0, 9), -9);
        counts[1]++;
        Due.said("REFUSALS", Arrays.toString(Due.refusals(x)), Arrays.toString(counts));
    }

    private static void count(Supplier<WalkTimes> made, int what, int want) {
        Bound.asks(made, "count(" + what + ")", want, x -> x.count(what));
    }

    private static void counts() {
        Due.sentence(43, "0 P, 1 WAYS, 2 letters, 3 in the ROW,");
        for (int p = 2; p <= 6; p++) {
            int n = p;
            count(() -> Nets.of(n), 0, p);
        }
        for (int ways = 0; ways <= 10; ways++) {
            int n = ways;
            count(() -> tenLess(n), 1, n);
        }
        int[] letters = {0, 1, 119, 120};
        for (int many : letters) {
            count(() -> {
                WalkTimes x = new WalkTimes();
                Nets.letters(x, "x".repeat(many));
                return x;
            }, 2, many);
        }
        for (int many = 0; many <= 10; many++) {
            int n = many;
            count(() -> {
                WalkTimes x = new WalkTimes();
                Nets.row(x, new int[n]);
                return x;
            }, 3, many);
        }
    }

    private static WalkTimes tenLess(int left) {
        WalkTimes x = Nets.tenWays();
        while (x.count(1) > left) {
            x.lose(x.count(1) - 1);
        }
        return x;
    }

    private static void countsOfAll() {
        Due.sentence(43, "4 WEIGHTS of all WAYS together,");
        // WAYS of KINDS 0 .. 5, 0 .. 3 with LOAD 1 .. 9, 9 and FIGURE 9 .. 0.
        int[] weights = {1, 1, 6, 2, 4, 6, 7, 4, 18, 18};
        int sum = 0;
        for (int n = 0; n <= 10; n++) {
            int left = n;
            count(() -> tenLess(left), 4, sum);
            sum += n < 10 ? weights[n] : 0;
        }
        Supplier<WalkTimes> most = () -> {
            WalkTimes x = Nets.of(2);
            for (int k = 0; k < 10; k++) {
                x.kind(x.way(0, 1, 9, 9), 2, 9);
            }
            return x;
        };
        count(most, 4, 180);
        count(Nets::rich, 4, 13);
    }

    private static void sets() {
        Due.sentence(43, "5 sets of POINTS that REACH one another,");
        for (int p = 2; p <= 6; p++) {
            int n = p;
            count(() -> Nets.of(n), 5, n);
            count(() -> Nets.plain(n, 1), 5, n - 1);
        }
        int[] chain = {45, 34, 23, 12, 1};
        for (int many = 0; many <= 5; many++) {
            int n = many;
            count(() -> Nets.plain(6, Arrays.copyOf(chain, n)), 5, 6 - n);
        }
        count(() -> Nets.plain(6, 5, 14, 23), 5, 3);
        count(() -> Nets.plain(6, 5, 5, 50), 5, 5);
        count(Nets::rich, 5, 2);
        count(Nets::full, 5, 1);
    }

    private static void countedRefusals() {
        Due.sentence(43, "11 .. 16 REFUSALS -1 .. -6.");
        WalkTimes x = Nets.plain(4, 1);
        for (int what = 11; what <= 16; what++) {
            Due.is("count(" + what + ") at first", x.count(what), 0);
        }
        int[] many = {0, 3, 5, 2, 7, 0, 4};
        for (int k = 1; k <= 6; k++) {
            for (int n = 0; n < many[k]; n++) {
                refuse(x, k);
            }
        }
        for (int k = 1; k <= 6; k++) {
            Due.is("count(" + (10 + k) + ")", x.count(10 + k), many[k]);
        }
        // What was refused stays counted whatever comes.
        x.image();
        x.on();
        x.points(6);
        x.clear();
        x.tells();
        for (int k = 1; k <= 6; k++) {
            Due.is("count(" + (10 + k) + ")", x.count(10 + k), many[k]);
        }
    }

    private static void refuse(WalkTimes x, int k) {
        switch (k) {
            case 1: Due.is("lose(9)", x.lose(9), -1); break;
            case 2: Due.is("of(0, 8)", x.of(0, 8), -2); break;
            case 3: Due.is("bridges(0, 3)", x.bridges(0, 3), -3); break;
            case 4: Due.is("row(-1)", x.row(-1), -4); break;
            default: Due.is("row(100)", x.row(100), -6); break;
        }
    }

    private static void otherWhat() {
        Due.sentence(43, "-9 for another what.");
        int[] others = {LEAST, -11, -1, 6, 7, 8, 9, 10, 17, 18, 21, 31, 32, MOST};
        for (int what : others) {
            count(Nets::empty, what, -9);
            count(Nets::rich, what, -9);
        }
        for (int what = 0; what <= 5; what++) {
            Due.is("count(" + what + ") is told", Nets.rich().count(what) >= 0 ? 1 : 0, 1);
        }
    }

    private static void refusals() {
        Due.sentence(0, "REFUSALS (the call answers the number, the first that fits in the order in which it tells"
            + " them; nothing changes but how many there were):");
        Bound.refuses(Nets::rich, "kind(9, 9, 99)", -1, x -> x.kind(9, 9, 99));
        Bound.refuses(Nets::rich, "kind(0, 9, 99)", -2, x -> x.kind(0, 9, 99));
        Bound.refuses(Nets::rich, "kind(0, 0, 99)", -6, x -> x.kind(0, 0, 99));
        Due.sentence(0, "-1 NOBODY: no such POINT, WAY, LIST, SLOT, letter, one twice.");
        Bound.refuses(Nets::rich, "no such POINT", -1, x -> x.reaches(5));
        Bound.refuses(Nets::rich, "no such WAY", -1, x -> x.lose(4));
        Bound.refuses(Nets::rich, "no such LIST", -1, x -> x.list(3, 1));
        Bound.refuses(Nets::rich, "no such SLOT", -1, x -> x.slot(3, 1, 1));
        Bound.refuses(Nets::rich, "no such letter", -1, x -> x.says(0, 3, 13));
        Bound.refuses(Nets::rich, "one twice", -1, x -> x.added(0, 0));
        Due.sentence(0, "-2 OTHER: what, KIND.");
        Bound.refuses(Nets::rich, "another what", -2, x -> x.of(0, 8));
        Bound.refuses(Nets::rich, "another what", -2, x -> x.whatIs(0, 2));
        Bound.refuses(Nets::rich, "another KIND", -2, x -> x.kind(0, 6, 0));
        Bound.refuses(Nets::rich, "another KIND", -2, x -> x.slot(0, 6, 0));
        Due.sentence(0, "-3 STATE: it is not as it must be.");
        Bound.refuses(Nets::empty, "no IMAGE", -3, WalkTimes::on);
        Bound.refuses(Nets::rich, "it doesn't REACH", -3, x -> x.bridges(0, 4));
        Due.sentence(0, "-4 BELOW: a number below the least.");
        Bound.refuses(Nets::rich, "letter", -4, x -> x.letter(-1));
        Bound.refuses(Nets::rich, "P", -4, x -> x.points(1));
        Bound.refuses(Nets::rich, "LOAD", -4, x -> x.load(0, 0));
        Due.sentence(0, "-6 ROOM: a number above the greatest, no room.");
        Bound.refuses(Nets::rich, "letter", -6, x -> x.letter(256));
        Bound.refuses(Nets::full, "no room for letters", -6, x -> x.letter(0));
        Bound.refuses(Nets::full, "no room in the ROW", -6, x -> x.row(0));
        Bound.refuses(Nets::full, "no room for WAYS", -6, x -> x.way(0, 1, 1, 1));
    }

    private static void refusalsOfLongs() {
        Due.sentence(0, "Of longs 4000000000000000000 less them (-1 as 4000000000000000001).");
        Bound.refusesLong(Nets::rich, "time(5, 0, 0)", -1, x -> x.time(5, 0, 0));
        Bound.refusesLong(Nets::rich, "time(0, 0, 2)", -2, x -> x.time(0, 0, 2));
        Bound.refusesLong(Nets::rich, "time(0, 3, 0)", -3, x -> x.time(0, 3, 0));
        Bound.refusesLong(Nets::rich, "sure(0, 1, 1, 0)", -4, x -> x.sure(0, 1, 1, 0));
        Bound.refusesLong(Nets::rich, "sure(0, 1, 21, 0)", -6, x -> x.sure(0, 1, 21, 0));
        Due.is("-1 as", new WalkTimes().time(4, 0, 0), 4000000000000000001L);
        Due.is("-6 as", new WalkTimes().bySteps(0, 0, 31, 0), 4000000000000000006L);
    }

    private static void notCounted() {
        Due.sentence(0, "Not counted: of LISTS and SLOTS -11 it is missing, -13 no such place, -14 a size below 0,"
            + " -16 it isn't made for such (of longs likewise).");
        Bound.refuses(Nets::rich, "put(1, 0, 0)", -11, x -> x.put(1, 0, 0));
        Bound.refuses(Nets::rich, "lays(1, 0, 0)", -11, x -> x.lays(1, 0, 0));
        Bound.refuses(Nets::rich, "judge(1, 0)", -11, x -> x.judge(1, 0));
        Bound.refuses(Nets::rich, "slots(1, 0, 0)", -11, x -> x.slots(1, 0, 0));
        Bound.refuses(Nets::rich, "slotted(1, 0, 1)", -11, x -> x.slotted(1, 0, 1));
        Bound.refuses(Nets::rich, "like(0, 1)", -11, x -> x.like(0, 1));
        Bound.refuses(Nets::rich, "put(0, 3, 0)", -13, x -> x.put(0, 3, 0));
        Bound.refuses(Nets::rich, "lays(0, 0, 3)", -13, x -> x.lays(0, 0, 3));
        Bound.refuses(Nets::rich, "slots(0, 2, 1)", -13, x -> x.slots(0, 2, 1));
        Bound.refuses(Nets::rich, "slotted(0, 2, 1)", -13, x -> x.slotted(0, 2, 1));
        Bound.refuses(Nets::rich, "list(0, -1)", -14, x -> x.list(0, -1));
        Bound.refuses(Nets::rich, "slot(0, 0, -1)", -14, x -> x.slot(0, 0, -1));
        Bound.refuses(Nets::rich, "slots(0, 0, 0)", -16, x -> x.slots(0, 0, 0));
        Bound.asks(Nets::rich, "look(1, 0)", LONGS + 11, x -> x.look(1, 0));
        Bound.asks(Nets::rich, "look(0, 3)", LONGS + 13, x -> x.look(0, 3));
        // -9 is no REFUSAL either.
        Bound.asks(Nets::rich, "middle()", -9, WalkTimes::middle);
        Bound.asks(Nets::rich, "count(6)", -9, x -> x.count(6));
        Bound.asks(Nets::rich, "slotted(0, 0, 1)", -9, x -> x.slotted(0, 0, 1));
        Bound.asks(Nets::empty, "missed(0, 1)", -9, x -> x.missed(0, 1));
        Bound.asks(Nets::empty, "farthest(0)", -9, x -> x.farthest(0));
    }

    /** A call that is refused for several things counts the first of them alone. */
    private static void firstThatFits() {
        Due.sentence(0, "the first that fits in the order in which it tells them; nothing changes but how many there"
            + " were");
        Bound.refusesLong(Nets::rich, "fast(5, 5, 1, 1000, 2)", -1, x -> x.fast(5, 5, 1, 1000, 2));
        Bound.refusesLong(Nets::rich, "fast(0, 1, 21, -1, 2)", -4, x -> x.fast(0, 1, 21, -1, 2));
        Bound.refusesLong(Nets::rich, "fast(0, 1, 21, 1000, 2)", -6, x -> x.fast(0, 1, 21, 1000, 2));
        Bound.refusesLong(Nets::rich, "fast(0, 3, 2, 999, 2)", -2, x -> x.fast(0, 3, 2, 999, 2));
        Bound.refuses(Nets::rich, "slotted(1, 9, 0)", -4, x -> x.slotted(1, 9, 0));
        Bound.refuses(Nets::rich, "slotted(1, 9, 10)", -6, x -> x.slotted(1, 9, 10));
        Bound.refuses(Nets::rich, "slotted(1, 9, 9)", -11, x -> x.slotted(1, 9, 9));
        Bound.refuses(Nets::rich, "slots(1, 9, 4)", -1, x -> x.slots(1, 9, 4));
    }

    /** The 512th call is answered as the first would be. */
    private static void lastCall() {
        Due.sentence(0, "An object is used for at most 512 calls after it has been made; what later calls answer is"
            + " free.");
        WalkTimes refused = new WalkTimes();
        for (int k = 1; k <= 511; k++) {
            Due.is("lose(0), call " + k, refused.lose(0), -1);
        }
        Due.is("count(11), call 512", refused.count(11), 511);
        WalkTimes asked = Nets.plain(4, 1, 12, 23);
        for (int k = 5; k <= 512; k++) {
            int b = 1 + k % 3;
            Due.is("time(0, " + b + ", 0), call " + k, asked.time(0, b, 0), b * b);
        }
        WalkTimes imaged = Nets.plain(4, 1, 12, 23);
        imaged.image();
        for (int k = 6; k <= 510; k += 3) {
            Due.is("points(2), call " + k, imaged.points(2), 4);
            Due.is("way(0, 1, 9, 9), call " + (k + 1), imaged.way(1, 0, 9, 9), 1);
            Due.is("on(), call " + (k + 2), imaged.on(), 3);
        }
        WalkTimes told = new WalkTimes();
        for (int turn = 0; turn < 4; turn++) {
            Nets.letters(told, "points 5;points 4;".repeat(6) + "points 3;lo");
            Due.is("tells(), call " + (120 * turn + 120), told.tells(), -1119);
        }
        Nets.letters(told, "points 5;points 6;points 3;lose");
        Due.is("tells(), call 512", told.tells(), -1031);
    }
}
