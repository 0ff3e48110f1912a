import java.util.function.Supplier;

/** Promises 12 to 18 and the Terms of TIME .. FLOW: each sentence at its bounds. */
public final class TimesAndOddsBoundsTest {
    private static final int LEAST = Product.LEAST;
    private static final int MOST = Product.MOST;
    private static final int[] NO_POINT = Product.no(-1, LEAST, -1, 5, MOST);
    private static final int[] NO_PART = Product.no(-2, LEAST, -1, 2, MOST);

    public static void main(String[] args) {
        walk();
        allWays();
        time();
        steps();
        commute();
        visits();
        visitsRefused();
        resistance();
        ahead();
        aheadRefused();
        flow();
        flowRefused();
        fractions();
        greatest();
        Due.end("TimesAndOddsBoundsTest");
    }

    private static void time(Supplier<WalkTimes> made, int a, int b, long above, long below) {
        Bound.fraction(made, "time(" + a + ", " + b + ")", above, below, (x, part) -> x.time(a, b, part));
    }

    private static void steps(Supplier<WalkTimes> made, int a, int b, long above, long below) {
        Bound.fraction(made, "steps(" + a + ", " + b + ")", above, below, (x, part) -> x.steps(a, b, part));
    }

    private static void commute(Supplier<WalkTimes> made, int a, int b, long above, long below) {
        Bound.fraction(made, "commute(" + a + ", " + b + ")", above, below, (x, part) -> x.commute(a, b, part));
    }

    private static void visits(Supplier<WalkTimes> made, int a, int b, int c, long above, long below) {
        Bound.fraction(made, "visits(" + a + ", " + b + ", " + c + ")", above, below,
            (x, part) -> x.visits(a, b, c, part));
    }

    private static void resistance(Supplier<WalkTimes> made, int a, int b, long above, long below) {
        Bound.fraction(made, "resistance(" + a + ", " + b + ")", above, below,
            (x, part) -> x.resistance(a, b, part));
    }

    private static void ahead(Supplier<WalkTimes> made, int from, int goals, int one, long above, long below) {
        Bound.fraction(made, "ahead(" + from + ", " + goals + ", " + one + ")", above, below,
            (x, part) -> x.ahead(from, goals, one, part));
    }

    private static void flow(Supplier<WalkTimes> made, int way, int a, int b, long above, long below) {
        Bound.fraction(made, "flow(" + way + ", " + a + ", " + b + ")", above, below,
            (x, part) -> x.flow(way, a, b, part));
    }

    /** A WAY of each KIND from 0 on; of WEIGHTS 3, 3, 2, 1, 2. */
    private static WalkTimes star() {
        return Nets.of(6, Nets.way(0, 1, 3, 9), Nets.way(2, 0, 5, 9, 1, 9), Nets.way(0, 3, 1, 9, 2, 9),
            Nets.way(4, 0, 1, 9, 3, 9), Nets.way(0, 5, 1, 9, 4, 9));
    }

    /** Ten WAYS side by side, of LENGTHS 1 .. 9, 9. */
    private static WalkTimes tenBeside() {
        WalkTimes x = Nets.of(2);
        for (int k = 0; k < 10; k++) {
            x.way(k % 2, 1 - k % 2, 1, Math.min(9, k + 1));
        }
        return x;
    }

    private static WalkTimes nineBeside() {
        WalkTimes x = tenBeside();
        x.lose(9);
        return x;
    }

    /** A fork: 0 - 1 of LENGTH 9 the one way, 0 - 2 of LENGTH 1 the other, both of LOAD 1. */
    private static WalkTimes fork() {
        return Nets.of(4, Nets.way(0, 1, 1, 9), Nets.way(2, 0, 1, 1));
    }

    private static void walk() {
        Due.sentence(0, "A WALK: from a POINT it goes along one of its WAYS to that one's other end, each WAY with odds"
            + " WEIGHT by the WEIGHTS of all WAYS of that POINT together, and takes its MINUTES.");
        ahead(TimesAndOddsBoundsTest::star, 0, 0b111110, 1, 3, 11);
        ahead(TimesAndOddsBoundsTest::star, 0, 0b111110, 2, 3, 11);
        ahead(TimesAndOddsBoundsTest::star, 0, 0b111110, 3, 2, 11);
        ahead(TimesAndOddsBoundsTest::star, 0, 0b111110, 4, 1, 11);
        ahead(TimesAndOddsBoundsTest::star, 0, 0b111110, 5, 2, 11);
        // There alone it goes on from each end; MINUTES of a WAY 9, a STILE 9, a ROAD 5, a TOLL 5, a GATE 18.
        int[] minutes = {9, 9, 5, 5, 18};
        for (int end = 1; end <= 5; end++) {
            time(TimesAndOddsBoundsTest::star, end, 0, minutes[end - 1], 1);
            steps(TimesAndOddsBoundsTest::star, end, 0, 1, 1);
        }
        // From 0 to 1: 1/2 it is there (9), 1/2 there and back to 2 (2), then anew.
        time(TimesAndOddsBoundsTest::fork, 0, 1, 11, 1);
        time(TimesAndOddsBoundsTest::fork, 2, 1, 12, 1);
    }

    private static void allWays() {
        Due.sentence(0, "All of I and II is told by all WAYS there are.");
        time(TimesAndOddsBoundsTest::tenBeside, 0, 1, 27, 5);
        time(TimesAndOddsBoundsTest::nineBeside, 0, 1, 5, 1);
        commute(TimesAndOddsBoundsTest::tenBeside, 1, 0, 54, 5);
        commute(TimesAndOddsBoundsTest::nineBeside, 1, 0, 10, 1);
        resistance(TimesAndOddsBoundsTest::tenBeside, 0, 1, 1, 10);
        resistance(TimesAndOddsBoundsTest::nineBeside, 0, 1, 1, 9);
        flow(TimesAndOddsBoundsTest::tenBeside, 0, 0, 1, 1, 10);
        flow(TimesAndOddsBoundsTest::tenBeside, 9, 0, 1, -1, 10);
        flow(TimesAndOddsBoundsTest::nineBeside, 0, 0, 1, 1, 9);
        // One that is gone is told no more.
        Supplier<WalkTimes> lost = () -> Nets.lost(fork());
        time(lost, 0, 1, 11, 1);
        steps(lost, 0, 1, 3, 1);
        commute(lost, 0, 1, 20, 1);
        visits(lost, 0, 1, 0, 2, 1);
        visits(lost, 2, 1, 0, 2, 1);
        resistance(lost, 0, 1, 1, 1);
        ahead(lost, 0, 0b0110, 2, 1, 2);
        flow(lost, 0, 0, 1, 1, 1);
        Bound.asks(lost, "bridges(0, 1)", 1, x -> x.bridges(0, 1));
        Bound.asks(lost, "missed(0, 1)", 0, x -> x.missed(0, 1));
        Bound.asks(lost, "added(0, 1)", 1, x -> x.added(0, 1));
        Bound.asks(lost, "farthest(0), 11 or 19", 2, x -> x.farthest(0));
        Bound.asks(lost, "count(4)", 2, x -> x.count(4));
        Bound.fraction(lost, "sure(0, 1, 2)", 1, 2, (x, part) -> x.sure(0, 1, 2, part));
        // The tenth alone leads on to 2.
        Supplier<WalkTimes> made = () -> {
            WalkTimes x = nineBeside();
            x.points(3);
            x.way(1, 2, 9, 1);
            return x;
        };
        steps(made, 0, 2, 4, 1);
        visits(made, 0, 2, 1, 2, 1);
        ahead(made, 1, 0b101, 2, 1, 2);
        Bound.asks(made, "bridges(0, 2)", 1 << 9, x -> x.bridges(0, 2));
        Bound.asks(made, "missed(0, 2)", 9, x -> x.missed(0, 2));
        Bound.asks(made, "reaches(2)", 7, x -> x.reaches(2));
        Bound.asks(made, "farthest(1), 7 or 11", 2, x -> x.farthest(1));
        Bound.asks(made, "farthest(2), 8 or 1", 0, x -> x.farthest(2));
    }

    private static void time() {
        Due.sentence(0, "TIME from a to b: how many MINUTES a WALK from a takes on the mean till it first comes to b"
            + " (0, if a is b; none, if a doesn't REACH b).");
        for (int a = 0; a < 5; a++) {
            time(Nets::rich, a, a, 0, 1);
            time(() -> Nets.of(6), a, a, 0, 1);
        }
        time(Nets::rich, 0, 1, 150, 13);
        time(Nets::rich, 1, 0, 102, 13);
        time(Nets::rich, 2, 1, 152, 13);
        time(Nets::rich, 0, 2, 124, 13);
        time(Nets::rich, 3, 4, 9, 1);
        time(Nets::rich, 4, 3, 9, 1);
        Due.sentence(12, "TIME: part 0 above, 1 below the line.");
        Bound.asks(Nets::rich, "time(1, 2, 0)", 142, x -> x.time(1, 2, 0));
        Bound.asks(Nets::rich, "time(1, 2, 1)", 13, x -> x.time(1, 2, 1));
        Due.sentence(12, "Refused as told: -1 either; -2; -3 none.");
        journeyRefused("time", (x, v) -> x.time(v[0], v[1], v[2]));
    }

    /** From 0 to 1 it comes, to 3 and 4 it doesn't. */
    private static void journeyRefused(String name, Product.Call call) {
        Product.ofLongs(Nets::rich, name, call)
            .argument(Product.good(0, 2), NO_POINT)
            .argument(Product.good(0, 1, 2), Product.no(-3, 3, 4), NO_POINT)
            .argument(Product.good(0, 1), NO_PART).inOrder(-1, -2, -3);
        Product.ofLongs(Nets::rich, name, call)
            .argument(Product.good(3, 4), NO_POINT)
            .argument(Product.good(3, 4), Product.no(-3, 0, 1, 2), NO_POINT)
            .argument(Product.good(0, 1), NO_PART).inOrder(-1, -2, -3);
        Product.ofLongs(Nets::full, name, call)
            .argument(Product.good(0, 5), Product.no(-1, -1, 6))
            .argument(Product.good(0, 5), Product.no(-1, -1, 6))
            .argument(Product.good(0, 1), Product.no(-2, -1, 2)).inOrder(-1, -2, -3);
        Product.ofLongs(Nets::empty, name + " without WAYS", call)
            .argument(Product.good(3))
            .argument(Product.good(3), Product.no(-3, 0, 1, 2), Product.no(-1, 4))
            .argument(Product.good(0, 1), Product.no(-2, 2)).inOrder(-1, -2, -3);
    }

    private static void steps() {
        Due.sentence(0, "STEPS: as if all took 1 MINUTE.");
        for (int a = 0; a < 5; a++) {
            steps(Nets::rich, a, a, 0, 1);
            steps(() -> Nets.of(6), a, a, 0, 1);
        }
        steps(Nets::rich, 0, 1, 33, 13);
        steps(Nets::rich, 1, 0, 21, 13);
        steps(Nets::rich, 3, 4, 1, 1);
        steps(TimesAndOddsBoundsTest::fork, 0, 1, 3, 1);
        Due.sentence(13, "STEPS. Refused as told: -1 either; -2; -3 none.");
        Bound.asks(Nets::rich, "steps(1, 2, 0)", 28, x -> x.steps(1, 2, 0));
        Bound.asks(Nets::rich, "steps(1, 2, 1)", 13, x -> x.steps(1, 2, 1));
        journeyRefused("steps", (x, v) -> x.steps(v[0], v[1], v[2]));
    }

    private static void commute() {
        Due.sentence(0, "COMMUTE: TIME there and back.");
        for (int a = 0; a < 5; a++) {
            commute(Nets::rich, a, a, 0, 1);
            commute(() -> Nets.of(6), a, a, 0, 1);
        }
        commute(Nets::rich, 0, 1, 252, 13);
        commute(Nets::rich, 1, 0, 252, 13);
        commute(Nets::rich, 4, 3, 18, 1);
        // 11 there, 9 back: both whole; 34/3 and 22: a fraction and a whole.
        commute(TimesAndOddsBoundsTest::fork, 0, 1, 20, 1);
        commute(() -> Nets.of(3, Nets.way(0, 1, 3, 2, 5, 4), Nets.way(1, 2, 2, 7, 3, 2)), 0, 2, 130, 3);
        Due.sentence(14, "COMMUTE. Refused as told: -1 either; -2; -3 none.");
        Bound.asks(Nets::rich, "commute(1, 2, 0)", 294, x -> x.commute(1, 2, 0));
        Bound.asks(Nets::rich, "commute(1, 2, 1)", 13, x -> x.commute(1, 2, 1));
        journeyRefused("commute", (x, v) -> x.commute(v[0], v[1], v[2]));
    }

    private static void visits() {
        Due.sentence(0, "VISITS of c from a to b (c is not b): how often such a WALK goes on from c, on the mean"
            + " (0, if a is b, or a doesn't REACH c).");
        visits(Nets::rich, 0, 1, 0, 21, 13);
        visits(Nets::rich, 0, 1, 2, 12, 13);
        visits(Nets::rich, 1, 0, 1, 15, 13);
        visits(Nets::rich, 1, 0, 2, 6, 13);
        for (int a = 0; a < 5; a++) {
            for (int c = 0; c < 5; c++) {
                if (c != a) {
                    visits(Nets::rich, a, a, c, 0, 1);
                    visits(() -> Nets.of(6), a, a, c, 0, 1);
                }
            }
        }
        visits(Nets::rich, 0, 1, 3, 0, 1);
        visits(Nets::rich, 0, 1, 4, 0, 1);
        visits(Nets::rich, 3, 4, 0, 0, 1);
        visits(Nets::rich, 3, 4, 3, 1, 1);
        // b stands between a and c: it REACHES c, but never goes on from it.
        visits(TimesAndOddsBoundsTest::fork, 1, 0, 2, 0, 1);
        visits(TimesAndOddsBoundsTest::fork, 1, 0, 1, 1, 1);
        Due.sentence(15, "VISITS of c from a to b.");
        // From 2 to 0 of the fork's 1: 0 on the mean twice, 2 once and again.
        visits(TimesAndOddsBoundsTest::fork, 2, 1, 0, 2, 1);
        visits(TimesAndOddsBoundsTest::fork, 2, 1, 2, 2, 1);
        visits(TimesAndOddsBoundsTest::fork, 0, 1, 2, 1, 1);
    }

    private static void visitsRefused() {
        Due.sentence(15, "Refused as told: -1 any (c is b, too); -2; -3 a doesn't REACH b.");
        Product.Call call = (x, v) -> x.visits(v[0], v[1], v[2], v[3]);
        Product.ofLongs(Nets::rich, "visits", call)
            .argument(Product.good(0, 1), NO_POINT)
            .argument(Product.good(1), NO_POINT)
            .argument(Product.good(0, 2, 3, 4), Product.no(-1, 1), NO_POINT)
            .argument(Product.good(0, 1), NO_PART).inOrder(-1, -2, -3);
        Product.ofLongs(Nets::rich, "visits", call)
            .argument(Product.no(-3, 0, 2), NO_POINT)
            .argument(Product.good(3), NO_POINT)
            .argument(Product.good(0, 1, 4), Product.no(-1, 3), NO_POINT)
            .argument(Product.good(0, 1), NO_PART).inOrder(-1, -2, -3);
        Product.ofLongs(Nets::full, "visits", call)
            .argument(Product.good(5), Product.no(-1, 6))
            .argument(Product.good(4), Product.no(-1, 6))
            .argument(Product.good(0, 5), Product.no(-1, 4, 6))
            .argument(Product.good(1), Product.no(-2, 2)).inOrder(-1, -2, -3);
    }

    private static void resistance() {
        Due.sentence(0, "RESISTANCE between two: each WAY being 1 by WEIGHT; as wires (0, if they are the same;"
            + " none, if they don't REACH one another).");
        for (int a = 0; a < 5; a++) {
            resistance(Nets::rich, a, a, 0, 1);
            resistance(() -> Nets.of(6), a, a, 0, 1);
        }
        for (int load = 1; load <= 9; load++) {
            int v = load;
            resistance(() -> Nets.of(2, Nets.way(0, 1, v, 9)), 1, 0, 1, load);
            resistance(() -> Nets.of(2, Nets.way(0, 1, v, 9, 2, 0)), 0, 1, 1, 2 * load);
        }
        resistance(Nets::rich, 0, 1, 3, 13);
        resistance(Nets::rich, 2, 0, 5, 26);
        resistance(Nets::rich, 4, 3, 1, 4);
        // One behind the other: 1/1 and 1/2; side by side 1 by 1 + 2.
        resistance(() -> Nets.of(3, Nets.way(0, 1, 1, 9), Nets.way(1, 2, 2, 9)), 0, 2, 3, 2);
        resistance(() -> Nets.of(3, Nets.way(0, 1, 1, 9), Nets.way(1, 0, 2, 9)), 0, 1, 1, 3);
        Due.sentence(16, "RESISTANCE. Refused as told: -1 either; -2; -3 none.");
        Bound.asks(Nets::rich, "resistance(1, 2, 0)", 7, x -> x.resistance(1, 2, 0));
        Bound.asks(Nets::rich, "resistance(1, 2, 1)", 26, x -> x.resistance(1, 2, 1));
        journeyRefused("resistance", (x, v) -> x.resistance(v[0], v[1], v[2]));
    }

    private static void ahead() {
        Due.sentence(0, "AHEAD: of a set of GOALS (bits) that x REACHES some of: how likely a WALK from x comes to a"
            + " told one of them first (if x is one of them: 1, if it is that one, else 0; 0, if x doesn't REACH that"
            + " one).");
        ahead(Nets::rich, 0, 0b00110, 1, 3, 7);
        ahead(Nets::rich, 0, 0b00110, 2, 4, 7);
        // One GOAL alone, and GOALS all round.
        ahead(Nets::rich, 0, 0b00010, 1, 1, 1);
        ahead(Nets::rich, 0, 0b11111, 0, 1, 1);
        ahead(Nets::rich, 0, 0b11111, 1, 0, 1);
        ahead(Nets::rich, 0, 0b11110, 1, 3, 7);
        // x is one of them: that one, another one, another one that it doesn't REACH.
        ahead(Nets::rich, 1, 0b00010, 1, 1, 1);
        ahead(Nets::rich, 1, 0b00110, 1, 1, 1);
        ahead(Nets::rich, 1, 0b00110, 2, 0, 1);
        ahead(Nets::rich, 1, 0b01010, 3, 0, 1);
        ahead(() -> Nets.of(6), 5, 0b100001, 5, 1, 1);
        ahead(() -> Nets.of(6), 5, 0b100001, 0, 0, 1);
        // x doesn't REACH the told one, but another one.
        ahead(Nets::rich, 0, 0b01010, 3, 0, 1);
        ahead(Nets::rich, 0, 0b01010, 1, 1, 1);
        ahead(Nets::rich, 3, 0b10001, 4, 1, 1);
        ahead(Nets::rich, 3, 0b10001, 0, 0, 1);
        // One GOAL stands behind another one: nothing comes through.
        ahead(TimesAndOddsBoundsTest::fork, 1, 0b0101, 2, 0, 1);
        ahead(TimesAndOddsBoundsTest::fork, 1, 0b0101, 0, 1, 1);
        Due.sentence(17, "AHEAD: of GOALS (bits) that told one.");
        ahead(TimesAndOddsBoundsTest::fork, 0, 0b0110, 2, 1, 2);
        ahead(TimesAndOddsBoundsTest::fork, 1, 0b0100, 2, 1, 1);
    }

    private static void aheadRefused() {
        Due.sentence(17, "Refused as told: -1 (x, told one); -4; -6 (bits of no POINT); -2;"
            + " -3 the told one is no GOAL, x REACHES none.");
        Product.Call call = (x, v) -> x.ahead(v[0], v[1], v[2], v[3]);
        Product.ofLongs(Nets::rich, "ahead", call)
            .argument(Product.good(0, 2), NO_POINT)
            .argument(Product.good(0b00110, 0b01010, 31), Product.no(-4, LEAST, -1), Product.no(-6, 32, 34, MOST))
            .argument(Product.good(1), NO_POINT)
            .argument(Product.good(0, 1), NO_PART).inOrder(-1, -4, -6, -2, -3);
        // The told one is no GOAL (of none at all, too).
        Product.ofLongs(Nets::rich, "ahead", call)
            .argument(Product.good(0), NO_POINT)
            .argument(Product.no(-3, 0, 0b00100, 0b11101, 1), Product.no(-4, LEAST, -1), Product.no(-6, 32, MOST))
            .argument(Product.good(1), NO_POINT)
            .argument(Product.good(0, 1), NO_PART).inOrder(-1, -4, -6, -2, -3);
        // x REACHES none of them.
        Product.ofLongs(Nets::rich, "ahead", call)
            .argument(Product.no(-3, 0, 1, 2), Product.good(3, 4), NO_POINT)
            .argument(Product.good(0b11000, 0b01000))
            .argument(Product.good(3), NO_POINT)
            .argument(Product.good(0, 1), NO_PART).inOrder(-1, -4, -6, -2, -3);
        for (int n = 2; n <= 6; n++) {
            int p = n;
            int all = (1 << p) - 1;
            ahead(() -> Nets.of(p), p - 1, all, p - 1, 1, 1);
            Bound.refusesLong(() -> Nets.of(p), "ahead of bit " + p, -6, x -> x.ahead(0, 1 << p, 0, 0));
            Bound.refusesLong(() -> Nets.of(p), "ahead of bits to " + p, -6, x -> x.ahead(0, 2 * all + 1, 0, 0));
            Bound.refusesLong(() -> Nets.of(p), "ahead of none", -3, x -> x.ahead(0, 0, 0, 0));
            Bound.refusesLong(() -> Nets.of(p), "ahead of another", -3, x -> x.ahead(0, 2, 1, 0));
        }
    }

    private static void flow() {
        Due.sentence(0, "FLOW along a WAY from a to b: how often a WALK from a till it first comes to b goes along it"
            + " from its first end to its second, less how often the other way, on the mean"
            + " (0 of WAYS that a doesn't REACH).");
        flow(Nets::rich, 0, 0, 1, 9, 13);
        flow(Nets::rich, 0, 1, 0, -9, 13);
        flow(Nets::rich, 1, 0, 1, -4, 13);
        flow(Nets::rich, 1, 1, 2, 7, 13);
        flow(Nets::rich, 2, 0, 2, -10, 13);
        flow(Nets::rich, 2, 2, 0, 10, 13);
        flow(Nets::rich, 3, 4, 3, 1, 1);
        flow(Nets::rich, 3, 3, 4, -1, 1);
        flow(Nets::rich, 3, 0, 1, 0, 1);
        flow(Nets::rich, 0, 3, 4, 0, 1);
        // As often there as back: nothing.
        flow(TimesAndOddsBoundsTest::fork, 1, 0, 1, 0, 1);
        flow(TimesAndOddsBoundsTest::fork, 1, 2, 1, 1, 1);
        flow(TimesAndOddsBoundsTest::fork, 0, 0, 1, 1, 1);
        Due.sentence(18, "FLOW (may be below 0).");
        flow(TimesAndOddsBoundsTest::fork, 1, 1, 2, -1, 1);
        flow(TimesAndOddsBoundsTest::fork, 0, 1, 2, -1, 1);
        flow(TimesAndOddsBoundsTest::tenBeside, 9, 0, 1, -1, 10);
    }

    private static void flowRefused() {
        Due.sentence(18, "Refused as told: -1 (WAY; a, b, one twice); -2; -3 a doesn't REACH b.");
        Product.Call call = (x, v) -> x.flow(v[0], v[1], v[2], v[3]);
        int[] noWay = Product.no(-1, LEAST, -1, 4, MOST);
        Product.ofLongs(Nets::rich, "flow", call)
            .argument(Product.good(0, 3), noWay)
            .argument(Product.good(0, 2), NO_POINT)
            .argument(Product.good(1), Product.no(-3, 3, 4), NO_POINT)
            .argument(Product.good(0, 1), NO_PART).inOrder(-1, -2, -3);
        Product.ofLongs(Nets::rich, "flow", call)
            .argument(Product.good(0, 3), noWay)
            .argument(Product.no(-3, 0, 2), Product.good(3), NO_POINT)
            .argument(Product.good(4), NO_POINT)
            .argument(Product.good(0, 1), NO_PART).inOrder(-1, -2, -3);
        for (int a = 0; a < 5; a++) {
            int p = a;
            Product.ofLongs(Nets::rich, "flow, " + a + " twice", (x, v) -> x.flow(v[0], p, p, v[1]))
                .argument(Product.no(-1, 0, 3, 4)).argument(Product.no(-1, 0, 1, 2)).inOrder(-1);
        }
        Product.ofLongs(Nets::full, "flow", call)
            .argument(Product.good(0, 9), Product.no(-1, 10))
            .argument(Product.good(5), Product.no(-1, 6))
            .argument(Product.good(0), Product.no(-1, 6))
            .argument(Product.good(1), Product.no(-2, 2)).inOrder(-1, -2, -3);
        Bound.refusesLong(Nets::empty, "flow(0, 0, 1, 2) without WAYS", -1, x -> x.flow(0, 0, 1, 2));
    }

    private static void fractions() {
        Due.sentence(0, "Fractions are in least terms, below the line above 0 (0 by 1, if nothing).");
        // 2 times 3 and 4 times 6 by 2 and 4: 30/6 is 5/1; 1 by 2 and 4 is 1/6; 2/6 is 1/3.
        Supplier<WalkTimes> made = () -> Nets.of(3, Nets.way(0, 1, 2, 3), Nets.way(1, 0, 4, 6));
        time(made, 0, 1, 5, 1);
        resistance(made, 0, 1, 1, 6);
        flow(made, 0, 0, 1, 1, 3);
        flow(made, 0, 1, 0, -1, 3);
        flow(made, 1, 0, 1, -2, 3);
        time(made, 2, 2, 0, 1);
        resistance(made, 1, 1, 0, 1);
        visits(made, 0, 0, 1, 0, 1);
        visits(made, 0, 1, 2, 0, 1);
        ahead(made, 0, 0b110, 2, 0, 1);
        Bound.fraction(made, "sure(0, 2, 20)", 0, 1, (x, part) -> x.sure(0, 2, 20, part));
        Bound.fraction(made, "fast(0, 1, 20, 2)", 0, 1, (x, part) -> x.fast(0, 1, 20, 2, part));
        Bound.fraction(made, "sure(0, 1, 2)", 3, 4, (x, part) -> x.sure(0, 1, 2, part));
        Bound.fraction(made, "sure(2, 2, 2)", 1, 1, (x, part) -> x.sure(2, 2, 2, part));
    }

    private static WalkTimes roads() {
        WalkTimes x = Nets.of(6);
        for (int[] ends : Nets.GREATEST) {
            x.kind(x.way(ends[0], ends[1], 9, 9), 2, 0);
        }
        return x;
    }

    /** Of the same nets as roads(), one of whose fractions are of the greatest numbers. */
    private static WalkTimes unlike() {
        int[][] rest = {{7, 7, 3, 1}, {9, 8, 5, 2}, {8, 8, 2, 6}, {9, 7, 3, 6}, {8, 9, 3, 1}, {8, 8, 3, 2}, {8, 7, 2, 4},
            {9, 9, 5, 6}, {8, 9, 3, 1}, {9, 7, 2, 8}};
        WalkTimes x = Nets.of(6);
        for (int k = 0; k < 10; k++) {
            x.way(Nets.GREATEST[k][0], Nets.GREATEST[k][1], rest[k][0], rest[k][1]);
            x.kind(k, rest[k][2], rest[k][3]);
        }
        return x;
    }

    /** Where the numbers on the way are the greatest, nothing wraps around; worked out by fractions. */
    private static void greatest() {
        Due.sentence(0, "Fractions are in least terms");
        time(TimesAndOddsBoundsTest::roads, 5, 0, 125, 1);
        time(TimesAndOddsBoundsTest::roads, 0, 5, 125, 3);
        time(TimesAndOddsBoundsTest::roads, 4, 5, 110, 3);
        resistance(TimesAndOddsBoundsTest::roads, 0, 3, 11, 135);
        resistance(TimesAndOddsBoundsTest::roads, 0, 5, 5, 54);
        time(TimesAndOddsBoundsTest::unlike, 5, 0, 4816265792L, 27390141);
        time(TimesAndOddsBoundsTest::unlike, 2, 0, 4756756433L, 27390141);
        time(TimesAndOddsBoundsTest::unlike, 0, 5, 163622094, 3043349);
        time(TimesAndOddsBoundsTest::unlike, 4, 0, 1327, 9);
        steps(TimesAndOddsBoundsTest::unlike, 5, 0, 978796733, 27390141);
        commute(TimesAndOddsBoundsTest::unlike, 5, 0, 6288864638L, 27390141);
        resistance(TimesAndOddsBoundsTest::unlike, 5, 0, 4301549, 27390141);
        visits(TimesAndOddsBoundsTest::unlike, 5, 0, 4, 50, 9);
        Bound.asks(TimesAndOddsBoundsTest::unlike, "added(5, 0)", 5, x -> x.added(5, 0));
        Due.said("said(5, 0)", Due.saidOf(unlike(), 5, 0),
            "5 to 0: 4816265792/27390141 there, 6288864638/27390141 both ways");
    }
}
