import java.util.function.Supplier;

/** Promises 19 to 25 and the Terms of ADDED .. FAST: each sentence at its bounds. */
public final class BestAndMissedBoundsTest {
    private static final int LEAST = Product.LEAST;
    private static final int MOST = Product.MOST;
    private static final int[] NO_POINT = Product.no(-1, LEAST, -1, 5, MOST);

    public static void main(String[] args) {
        added();
        addedOnlyIfLess();
        addedFirst();
        addedRefused();
        missed();
        missedNone();
        bridges();
        farthest();
        middle();
        sure();
        sureRefused();
        fast();
        fastAtTheGreatest();
        fastRefused();
        Due.end("BestAndMissedBoundsTest");
    }

    private static void added(Supplier<WalkTimes> made, int a, int b, int want) {
        Bound.asks(made, "added(" + a + ", " + b + ")", want, x -> x.added(a, b));
    }

    /** One WAY between two POINTS, then more of them if told. */
    private static Supplier<WalkTimes> two(int[]... ways) {
        return () -> Nets.of(2, ways);
    }

    private static void added() {
        Due.sentence(0, "ADDED: of all twos of POINTS the one (10 the lesser and the greater) between which a WAY more"
            + " (KIND 0, LOAD 1, LENGTH 1) makes TIME from a to b least,");
        for (int p = 2; p <= 6; p++) {
            int points = p;
            for (int a = 0; a < p; a++) {
                for (int b = 0; b < p; b++) {
                    if (a != b) {
                        added(() -> Nets.of(points), a, b, 10 * Math.min(a, b) + Math.max(a, b));
                    }
                }
            }
        }
        // With LOAD 2 the best were 2; with LENGTH 2 the best were 23.
        added(() -> Nets.of(3, Nets.way(0, 2, 2, 3), Nets.way(1, 2, 3, 2)), 2, 0, 1);
        added(() -> Nets.of(4, Nets.way(0, 3, 1, 2), Nets.way(2, 0, 3, 1), Nets.way(2, 0, 1, 3), Nets.way(2, 3, 1, 3)),
            0, 2, 2);
        // Ten are there: one more is tried all the same, and none is there behind it.
        Supplier<WalkTimes> ten = () -> Nets.of(4, new int[][] {{0, 1, 1, 5}, {0, 1, 1, 5}, {0, 1, 1, 5}, {0, 1, 1, 5},
            {0, 1, 1, 5}, {0, 1, 1, 5}, {0, 1, 1, 5}, {0, 1, 1, 5}, {0, 1, 1, 5}, {0, 1, 1, 5}});
        added(ten, 0, 1, 1);
        added(ten, 2, 3, 23);
        added(ten, 0, 2, 2);
        added(Nets::full, 5, 4, 45);
        added(Nets::rich, 2, 1, 12);
        added(Nets::rich, 1, 0, 1);
    }

    private static void addedOnlyIfLess() {
        Due.sentence(0, "if less than as it is (none counts as more than all; also between two that have one),");
        added(two(Nets.way(0, 1, 1, 1)), 0, 1, -9);
        added(two(Nets.way(0, 1, 1, 2)), 0, 1, 1);
        added(two(Nets.way(0, 1, 1, 9)), 1, 0, 1);
        // MINUTES 1 and 2 of the greatest WEIGHT: 1 as it was, 37/19 instead of 2.
        added(two(Nets.way(0, 1, 9, 2, 2, 0)), 0, 1, -9);
        added(two(Nets.way(0, 1, 9, 3, 2, 0)), 0, 1, 1);
        // None as it is: whatever makes one is less, however long it takes.
        added(() -> Nets.plain(4, 1, 23), 0, 2, 2);
        added(() -> Nets.plain(4, 1, 23), 1, 2, 12);
        added(() -> Nets.plain(4, 1, 23), 2, 1, 12);
        added(() -> Nets.of(3, Nets.way(0, 1, 9, 9, 5, 9)), 1, 2, 12);
        Due.sentence(19, "ADDED; -9.");
        // All others REACH no more than before, and where both are there is no better one.
        added(() -> Nets.plain(2, 1, 10), 0, 1, -9);
        added(() -> Nets.plain(6, 1), 1, 0, -9);
    }

    private static void addedFirst() {
        Due.sentence(0, "of several the first by numbers; -9.");
        // 2 and 12 make it 3 both; 23 and 34 make it 2; 4 and 24 make it 4.
        added(() -> Nets.of(3, Nets.way(2, 0, 1, 1), Nets.way(1, 0, 2, 1)), 0, 2, 2);
        added(() -> Nets.of(5, Nets.way(2, 3, 1, 1), Nets.way(2, 4, 1, 1)), 2, 3, 23);
        added(() -> Nets.of(5, Nets.way(4, 0, 1, 1), Nets.way(0, 2, 1, 3)), 0, 4, 4);
    }

    private static void addedRefused() {
        Due.sentence(19, "-1 either (one twice, too).");
        twoPointsRefused("added", (x, v) -> x.added(v[0], v[1]));
    }

    private static void twoPointsRefused(String name, Product.Call call) {
        Product.ofInts(Nets::rich, name, call)
            .argument(Product.good(0, 2), NO_POINT)
            .argument(Product.good(1), NO_POINT).inOrder(-1);
        Product.ofInts(Nets::full, name, call)
            .argument(Product.good(5), Product.no(-1, -1, 6))
            .argument(Product.good(4), Product.no(-1, -1, 6)).inOrder(-1);
        for (int a = 0; a < 5; a++) {
            int p = a;
            Bound.refuses(Nets::rich, name + "(" + a + ", " + a + ")", -1, x -> call.on(x, new int[] {p, p}));
            Bound.refuses(() -> Nets.of(6), name + "(" + a + ", " + a + ") without WAYS", -1,
                x -> call.on(x, new int[] {p, p}));
        }
        Bound.refuses(Nets::rich, name + "(5, 5)", -1, x -> call.on(x, new int[] {5, 5}));
    }

    private static void missed(Supplier<WalkTimes> made, int a, int b, int want) {
        Bound.asks(made, "missed(" + a + ", " + b + ")", want, x -> x.missed(a, b));
    }

    private static void missed() {
        Due.sentence(0, "MISSED: the WAY without which RESISTANCE between a and b is greatest"
            + " (none counts as more than all; as it is it may be none, too), of several the first;");
        missed(two(Nets.way(0, 1, 1, 1), Nets.way(0, 1, 2, 1), Nets.way(0, 1, 3, 1)), 0, 1, 2);
        missed(two(Nets.way(0, 1, 3, 1), Nets.way(0, 1, 2, 1), Nets.way(0, 1, 1, 1)), 0, 1, 0);
        missed(two(Nets.way(0, 1, 2, 1), Nets.way(0, 1, 3, 1), Nets.way(1, 0, 3, 1)), 1, 0, 1);
        // WEIGHT counts, not LOAD: a ROAD of 2 is 4, a STILE of 9 is 5.
        missed(two(Nets.way(0, 1, 3, 1), Nets.way(0, 1, 2, 1, 2, 0)), 0, 1, 1);
        missed(two(Nets.way(0, 1, 9, 1, 1, 0), Nets.way(0, 1, 6, 1)), 0, 1, 1);
        // The tenth is the greatest.
        missed(() -> {
            WalkTimes x = Nets.of(2);
            for (int k = 0; k < 9; k++) {
                x.way(0, 1, 8, 1);
            }
            x.way(0, 1, 9, 1);
            return x;
        }, 0, 1, 9);
        // None is more than all: 0 - 1 beside, then one WAY alone to 2; also of two that are both missed so.
        missed(() -> Nets.of(3, Nets.way(0, 1, 1, 1), Nets.way(0, 1, 9, 1), Nets.way(1, 2, 9, 1)), 0, 2, 2);
        missed(() -> Nets.plain(4, 1, 1, 12, 23), 0, 3, 2);
        missed(() -> Nets.plain(4, 23, 12, 1), 0, 3, 0);
        // What makes nothing more is not missed, as long as another one is.
        missed(() -> Nets.plain(4, 23, 1, 1), 0, 1, 1);
        missed(() -> Nets.plain(4, 1, 1, 23), 0, 1, 0);
    }

    private static void missedNone() {
        Due.sentence(0, "as it is it may be none, too");
        missed(() -> Nets.plain(4, 23), 0, 1, 0);
        missed(() -> Nets.plain(4, 23, 23, 12), 0, 1, 0);
        Due.sentence(0, "-9: there are no WAYS.");
        missed(Nets::empty, 0, 1, -9);
        missed(() -> Nets.of(6), 5, 0, -9);
        missed(() -> Nets.plain(2, 1), 0, 1, 0);
        Due.sentence(20, "MISSED; -9. -1 either (one twice, too).");
        missed(() -> Nets.of(2), 1, 0, -9);
        twoPointsRefused("missed", (x, v) -> x.missed(v[0], v[1]));
    }

    private static void bridges(Supplier<WalkTimes> made, int a, int b, int want) {
        Bound.asks(made, "bridges(" + a + ", " + b + ")", want, x -> x.bridges(a, b));
    }

    private static void bridges() {
        Due.sentence(0, "BRIDGES: WAYS (bits) without any of which a doesn't REACH b; -3 it doesn't as it is.");
        bridges(() -> Nets.plain(2, 1), 0, 1, 1);
        bridges(() -> Nets.plain(2, 1, 10), 0, 1, 0);
        bridges(() -> Nets.plain(6, 1, 12, 23, 34, 45), 0, 5, 0b11111);
        bridges(() -> Nets.plain(6, 1, 12, 23, 34, 45), 3, 1, 0b00110);
        bridges(() -> Nets.plain(6, 1, 12, 23, 34, 45, 50), 0, 5, 0);
        bridges(() -> Nets.plain(6, 12, 12, 12, 12, 12, 12, 12, 12, 12, 20), 0, 1, 1 << 9);
        bridges(() -> Nets.plain(6, 20, 12, 12, 12, 12, 12, 12, 12, 12, 12), 1, 0, 1);
        Due.sentence(21, "BRIDGES (bits).");
        bridges(Nets::rich, 0, 1, 0);
        bridges(Nets::rich, 3, 4, 8);
        Due.sentence(21, "-1 either (one twice, too); -3.");
        twoPointsRefused("bridges", (x, v) -> x.bridges(v[0], v[1]));
        Product.ofInts(Nets::rich, "bridges", (x, v) -> x.bridges(v[0], v[1]))
            .argument(Product.good(3), Product.no(-3, 0, 1, 2), NO_POINT)
            .argument(Product.good(4), NO_POINT).inOrder(-1, -3);
        Bound.refuses(Nets::rich, "bridges(0, 3)", -3, x -> x.bridges(0, 3));
        Bound.refuses(Nets::rich, "bridges(4, 2)", -3, x -> x.bridges(4, 2));
        Bound.refuses(Nets::empty, "bridges(0, 1) without WAYS", -3, x -> x.bridges(0, 1));
    }

    private static void farthest(Supplier<WalkTimes> made, int a, int want) {
        Bound.asks(made, "farthest(" + a + ")", want, x -> x.farthest(a));
    }

    private static void farthest() {
        Due.sentence(0, "FARTHEST from a: of other POINTS that it REACHES the one to which TIME is most,"
            + " of several the least; -9: none.");
        // From 1 of 0 - 1 - 2: 19 or 11 by which of both is long; 3 and 3 if none is.
        farthest(() -> Nets.of(4, Nets.way(0, 1, 1, 1), Nets.way(1, 2, 1, 9)), 1, 0);
        farthest(() -> Nets.of(4, Nets.way(0, 1, 1, 9), Nets.way(1, 2, 1, 1)), 1, 2);
        farthest(() -> Nets.plain(4, 1, 12), 1, 0);
        farthest(() -> Nets.plain(4, 1, 12), 0, 2);
        farthest(() -> Nets.plain(4, 1, 12), 2, 0);
        // Equal ones all round: the least other one.
        for (int a = 0; a < 6; a++) {
            int p = a;
            Supplier<WalkTimes> star = () -> {
                WalkTimes x = Nets.of(6);
                for (int end = 0; end < 6; end++) {
                    x.way(p, end, 2, 3);
                }
                return x;
            };
            farthest(star, a, a == 0 ? 1 : 0);
        }
        // Others are there, but not where it comes to.
        farthest(() -> Nets.plain(4, 1, 12), 3, -9);
        farthest(() -> Nets.plain(4, 23), 2, 3);
        farthest(() -> Nets.plain(4, 23), 3, 2);
        farthest(Nets::empty, 0, -9);
        Due.sentence(22, "FARTHEST; -9. -1.");
        farthest(Nets::rich, 0, 1);
        farthest(Nets::rich, 4, 3);
        farthest(() -> Nets.of(6), 5, -9);
        Product.ofInts(Nets::rich, "farthest", (x, v) -> x.farthest(v[0])).argument(Product.good(0, 4), NO_POINT)
            .inOrder(-1);
        Product.ofInts(Nets::full, "farthest", (x, v) -> x.farthest(v[0]))
            .argument(Product.good(0, 5), Product.no(-1, -1, 6)).inOrder(-1);
    }

    private static void middle(String text, Supplier<WalkTimes> made, int want) {
        Bound.asks(made, "middle() of " + text, want, WalkTimes::middle);
    }

    private static void middle() {
        Due.sentence(0, "MIDDLE: the POINT from which TIMES to all others together are least, of several the least;"
            + " -9: some don't REACH one another.");
        middle("two", () -> Nets.plain(2, 1), 0);
        middle("two, none", () -> Nets.of(2), -9);
        // From 0, 1, 2 together: 5, 6, 5; 9, 9, 6; 6, 9, 9.
        middle("a chain", () -> Nets.plain(3, 1, 12), 0);
        middle("a chain, long first", () -> Nets.of(3, Nets.way(0, 1, 1, 2), Nets.way(1, 2, 1, 1)), 2);
        middle("a chain, long then", () -> Nets.of(3, Nets.way(0, 1, 1, 1), Nets.way(1, 2, 1, 2)), 0);
        middle("a ring of six", () -> Nets.plain(6, 1, 12, 23, 34, 45, 50), 0);
        // From 0 635/3, from 1 .. 4 203, from 5 359/3.
        middle("a star", () -> Nets.of(6, Nets.way(0, 1, 3, 4), Nets.way(0, 2, 3, 4), Nets.way(0, 3, 3, 4),
            Nets.way(0, 4, 3, 4), Nets.way(0, 5, 1, 1)), 5);
        for (int apart = 0; apart < 6; apart++) {
            int p = apart;
            middle("six, " + apart + " is apart", () -> {
                WalkTimes x = Nets.of(6);
                for (int k = 0; k < 6; k++) {
                    int next = (k + 1) % 6;
                    if (k != p && next != p) {
                        x.way(k, next, 1, 1);
                    }
                }
                return x;
            }, -9);
        }
        // Of one net behind another one: 2 is best by far, then 0 by a little.
        WalkTimes changed = Nets.of(3, Nets.way(0, 1, 1, 9), Nets.way(1, 2, 1, 1));
        Due.is("middle(), long first", changed.middle(), 2);
        changed.length(0, 1);
        Due.is("middle(), then not", changed.middle(), 0);
        Due.sentence(23, "MIDDLE; -9.");
        middle("rich", Nets::rich, -9);
        middle("none", Nets::empty, -9);
        middle("full", Nets::full, 1);
    }

    private static void sure(Supplier<WalkTimes> made, int a, int b, int t, long above, long below) {
        Bound.fraction(made, "sure(" + a + ", " + b + ", " + t + ")", above, below, (x, part) -> x.sure(a, b, t, part));
    }

    private static Supplier<WalkTimes> beside(int many) {
        return () -> {
            WalkTimes x = Nets.of(3);
            for (int k = 0; k < many; k++) {
                x.way(0, 1, 1, 1);
            }
            return x;
        };
    }

    private static void sure() {
        Due.sentence(0, "SURE: each of WAYS 0 .. 5 (as many as there are), by itself, is not there with odds 1 in t"
            + " (2 .. 20): how likely a REACHES b: a fraction.");
        sure(beside(0), 0, 0, 2, 1, 1);
        sure(beside(0), 0, 1, 2, 0, 1);
        long odds = 1;
        for (int many = 1; many <= 6; many++) {
            odds *= 2;
            sure(beside(many), 0, 1, 2, odds - 1, odds);
            sure(beside(many), 1, 0, 2, odds - 1, odds);
            sure(beside(many), 1, 1, 20, 1, 1);
            sure(beside(many), 0, 2, 20, 0, 1);
        }
        sure(beside(1), 0, 1, 20, 19, 20);
        sure(beside(1), 0, 1, 3, 2, 3);
        sure(beside(6), 0, 1, 20, 63999999, 64000000);
        // The seventh is sure, and so are the eighth to the tenth.
        sure(beside(7), 0, 1, 2, 1, 1);
        sure(beside(10), 0, 1, 20, 1, 1);
        // WAY 5 alone, then WAY 6 alone, leads on to 2.
        sure(() -> Nets.plain(3, 1, 1, 1, 1, 1, 12), 1, 2, 4, 3, 4);
        sure(() -> Nets.plain(3, 1, 1, 1, 1, 1, 1, 12), 1, 2, 4, 1, 1);
        sure(() -> Nets.plain(3, 1, 1, 1, 1, 1, 1, 12), 0, 2, 2, 63, 64);
        // One behind the other: both must be there; six of them: all.
        sure(() -> Nets.plain(3, 1, 12), 0, 2, 3, 4, 9);
        sure(() -> Nets.plain(6, 1, 12, 23, 34, 45), 0, 5, 2, 1, 32);
        sure(() -> Nets.plain(6, 1, 12, 23, 34, 45), 0, 5, 20, 2476099, 3200000);
        Due.sentence(24, "SURE.");
        sure(Nets::rich, 0, 1, 2, 5, 8);
        sure(Nets::rich, 3, 4, 2, 1, 2);
    }

    private static void sureRefused() {
        Due.sentence(24, "Refused as told: -1 either; -4 (t below 2); -6 20; -2.");
        Product.ofLongs(Nets::rich, "sure", (x, v) -> x.sure(v[0], v[1], v[2], v[3]))
            .argument(Product.good(0, 4), NO_POINT)
            .argument(Product.good(0, 1, 4), NO_POINT)
            .argument(Product.good(2, 3, 20), Product.no(-4, LEAST, -1, 0, 1), Product.no(-6, 21, MOST))
            .argument(Product.good(0, 1), Product.no(-2, LEAST, -1, 2, MOST)).inOrder(-1, -4, -6, -2);
        Product.ofLongs(Nets::full, "sure", (x, v) -> x.sure(v[0], v[1], v[2], v[3]))
            .argument(Product.good(5), Product.no(-1, 6))
            .argument(Product.good(5), Product.no(-1, 6))
            .argument(Product.good(2, 20), Product.no(-4, 1), Product.no(-6, 21))
            .argument(Product.good(0, 1), Product.no(-2, -1, 2)).inOrder(-1, -4, -6, -2);
    }

    private static void fast(Supplier<WalkTimes> made, int a, int b, int[] tAndM, long above, long below) {
        Bound.fraction(made, "fast(" + a + ", " + b + ", " + tAndM[0] + ", " + tAndM[1] + ")", above, below,
            (x, part) -> x.fast(a, b, tAndM[0], tAndM[1], part));
    }

    private static int[] by(int t, int m) {
        return new int[] {t, m};
    }

    private static void fast() {
        Due.sentence(0, "FAST: likewise how likely TIME from a to b is m (0 .. 999) or less.");
        fast(Nets::empty, 1, 1, by(2, 0), 1, 1);
        fast(Nets::empty, 1, 2, by(2, 999), 0, 1);
        fast(two(Nets.way(0, 1, 1, 1)), 0, 1, by(2, 0), 0, 1);
        fast(two(Nets.way(0, 1, 1, 1)), 0, 1, by(2, 1), 1, 2);
        fast(two(Nets.way(0, 1, 1, 1)), 0, 0, by(2, 0), 1, 1);
        fast(two(Nets.way(0, 1, 1, 9, 5, 9)), 1, 0, by(20, 17), 0, 1);
        fast(two(Nets.way(0, 1, 1, 9, 5, 9)), 1, 0, by(20, 18), 19, 20);
        // TIME 7/2 of both: 3 is less, 4 is more; 3 and 4 alone.
        Supplier<WalkTimes> both = two(Nets.way(0, 1, 1, 3), Nets.way(0, 1, 1, 4));
        fast(both, 0, 1, by(2, 2), 0, 1);
        fast(both, 0, 1, by(2, 3), 1, 4);
        fast(both, 0, 1, by(2, 4), 3, 4);
        fast(both, 0, 1, by(2, 999), 3, 4);
        // A side way that may be gone makes it faster: 3 without it, 5 with it.
        Supplier<WalkTimes> side = () -> Nets.of(3, Nets.way(0, 1, 1, 3), Nets.way(0, 2, 1, 1));
        fast(side, 0, 1, by(4, 2), 0, 1);
        fast(side, 0, 1, by(4, 3), 3, 16);
        fast(side, 0, 1, by(4, 4), 3, 16);
        fast(side, 0, 1, by(4, 5), 3, 4);
        // WAYS 0 .. 5 are unsure, WAY 6 is sure.
        fast(beside(6), 0, 1, by(2, 1), 63, 64);
        fast(beside(7), 0, 1, by(2, 1), 1, 1);
        fast(beside(7), 0, 1, by(2, 0), 0, 1);
    }

    private static void fastAtTheGreatest() {
        Due.sentence(25, "FAST.");
        // Chains whose TIME from 0 to 5 is 999, 8993/9 and 13975/14.
        Supplier<WalkTimes> just = () -> Nets.of(6, Nets.way(0, 1, 8, 8, 5, 7), Nets.way(1, 2, 7, 9, 5, 5),
            Nets.way(2, 3, 2, 5, 5, 8), Nets.way(3, 4, 7, 5, 5, 4), Nets.way(4, 5, 1, 5, 5, 7));
        Supplier<WalkTimes> over = () -> Nets.of(6, Nets.way(0, 1, 2, 7, 5, 7), Nets.way(1, 2, 9, 5, 5, 8),
            Nets.way(2, 3, 1, 8, 5, 4), Nets.way(3, 4, 1, 9, 0, 5), Nets.way(4, 5, 1, 9, 0, 2));
        Supplier<WalkTimes> below = () -> Nets.of(6, Nets.way(0, 1, 9, 8, 5, 2), Nets.way(1, 2, 7, 8, 0, 5),
            Nets.way(2, 3, 8, 9, 0, 4), Nets.way(3, 4, 1, 8, 0, 4), Nets.way(4, 5, 1, 5, 5, 8));
        fast(just, 0, 5, by(2, 999), 1, 32);
        fast(just, 0, 5, by(2, 998), 0, 1);
        fast(over, 0, 5, by(2, 999), 0, 1);
        fast(below, 0, 5, by(2, 999), 1, 32);
        fast(below, 0, 5, by(2, 998), 0, 1);
        Bound.asks(just, "time(0, 5, 0)", 999, x -> x.time(0, 5, 0));
        sure(over, 0, 5, 2, 1, 32);
    }

    private static void fastRefused() {
        Due.sentence(25, "Refused as told: -1 either; -4 (t below 2; m); -6 (20; 999); -2.");
        Product.ofLongs(Nets::rich, "fast", (x, v) -> x.fast(v[0], v[1], v[2], v[3], v[4]))
            .argument(Product.good(0), NO_POINT)
            .argument(Product.good(0, 1, 4), NO_POINT)
            .argument(Product.good(2, 20), Product.no(-4, LEAST, 0, 1), Product.no(-6, 21, MOST))
            .argument(Product.good(0, 999), Product.no(-4, LEAST, -1), Product.no(-6, 1000, MOST))
            .argument(Product.good(0, 1), Product.no(-2, -1, 2, MOST)).inOrder(-1, -4, -6, -2);
        Product.ofLongs(Nets::full, "fast", (x, v) -> x.fast(v[0], v[1], v[2], v[3], v[4]))
            .argument(Product.good(5), Product.no(-1, 6))
            .argument(Product.good(0), Product.no(-1, 6))
            .argument(Product.good(2, 20), Product.no(-4, 1), Product.no(-6, 21))
            .argument(Product.good(0, 999), Product.no(-4, -1), Product.no(-6, 1000))
            .argument(Product.good(0, 1), Product.no(-2, 2)).inOrder(-1, -4, -6, -2);
    }
}
