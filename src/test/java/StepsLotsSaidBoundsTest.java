import java.util.function.Supplier;

/** Promises 26 to 28 and the Terms of BY STEPS, LOT and SAID: each sentence at its bounds. */
public final class StepsLotsSaidBoundsTest {
    private static final int LEAST = Product.LEAST;
    private static final int MOST = Product.MOST;
    private static final int[] NO_POINT = Product.no(-1, LEAST, -1, 5, MOST);
    private static final int[] NO_WHAT = Product.no(-2, LEAST, -1, 2, MOST);
    /** Both ends and WEIGHT; POINT 3 has none, two are between 0 and 1. */
    private static final int[][] NET = {{0, 1, 7}, {1, 2, 3}, {2, 0, 5}, {1, 0, 9}, {2, 1, 1}};

    public static void main(String[] args) {
        atFirst();
        eachStep();
        alone();
        bitsAndInts();
        byStepsRefused();
        lots();
        sixtySteps();
        seedGoesOn();
        whichWay();
        draw();
        lotsRefused();
        said();
        says();
        saysRefused();
        Due.end("StepsLotsSaidBoundsTest");
    }

    private static void spread(Supplier<WalkTimes> made, int a, int b, int n, double want) {
        Bound.asks(made, "bySteps(" + a + ", " + b + ", " + n + ", 0)", Double.doubleToLongBits(want),
            x -> x.bySteps(a, b, n, 0));
        Bound.asks(made, "bySteps(" + a + ", " + b + ", " + n + ", 1)", (int) (want * 1000000.0),
            x -> x.bySteps(a, b, n, 1));
    }

    private static void atFirst() {
        Due.sentence(0, "BY STEPS: doubles: at first 1.0 at a, 0.0 at all others;");
        for (int a = 0; a < 5; a++) {
            for (int b = 0; b < 5; b++) {
                spread(Nets::rich, a, b, 0, a == b ? 1.0 : 0.0);
                spread(() -> Nets.of(6), a, b, 0, a == b ? 1.0 : 0.0);
            }
        }
    }

    private static WalkTimes net() {
        WalkTimes x = Nets.of(4);
        for (int[] way : NET) {
            x.way(way[0], way[1], way[2], 4);
        }
        return x;
    }

    /** What each POINT has behind n steps from 0; sorts other than 0 work it out in another order. */
    private static double[] steps(int n, int sort) {
        double[] now = {1.0, 0.0, 0.0, 0.0};
        for (int k = 0; k < n; k++) {
            double[] then = new double[4];
            for (int turn = 0; turn < 4; turn++) {
                int p = sort == 1 ? 3 - turn : turn;
                stepFrom(p, now, then, sort);
            }
            now = then;
        }
        return now;
    }

    private static void stepFrom(int p, double[] now, double[] then, int sort) {
        double all = 0;
        for (int[] way : NET) {
            all += way[0] == p || way[1] == p ? way[2] : 0;
        }
        if (all == 0) {
            then[p] += now[p];
        }
        for (int turn = 0; turn < NET.length; turn++) {
            int[] way = NET[sort == 2 ? NET.length - 1 - turn : turn];
            if (way[0] == p || way[1] == p) {
                int other = way[0] + way[1] - p;
                then[other] += sort == 3 ? now[p] * ((double) way[2] / all) : sort == 4 ? now[p] / all * way[2]
                    : now[p] * (double) way[2] / all;
            }
        }
    }

    private static void eachStep() {
        Due.sentence(0, "each step: for POINTS x by numbers, for WAYS of x by numbers: what is at x now, times WEIGHT"
            + " (a double), by the WEIGHTS of x together (a double), is added to what its other end has then"
            + " (0.0 at first;");
        boolean[] seen = new boolean[5];
        for (int n = 0; n <= 30; n++) {
            double[] want = steps(n, 0);
            for (int b = 0; b < 4; b++) {
                spread(StepsLotsSaidBoundsTest::net, 0, b, n, want[b]);
                spread(() -> Nets.lost(net()), 0, b, n, want[b]);
                for (int sort = 1; sort <= 4; sort++) {
                    seen[sort] |= Double.doubleToLongBits(steps(n, sort)[b]) != Double.doubleToLongBits(want[b]);
                }
            }
        }
        for (int sort = 1; sort <= 4; sort++) {
            Due.is("another order " + sort + " would be seen", seen[sort] ? 1 : 0, 1);
        }
        // WEIGHT counts, not LOAD: a ROAD of 1 is 2, a TOLL of 9 less 9 is 9.
        Supplier<WalkTimes> kinds = () -> Nets.of(3, Nets.way(0, 1, 1, 9, 2, 0), Nets.way(0, 2, 9, 9, 3, 9));
        spread(kinds, 0, 1, 1, 2.0 / 11.0);
        spread(kinds, 0, 2, 1, 9.0 / 11.0);
    }

    private static void alone() {
        Due.sentence(0, "a POINT without WAYS keeps what it has);");
        for (int n = 0; n <= 30; n++) {
            spread(() -> Nets.of(6), 5, 5, n, 1.0);
            spread(() -> Nets.of(6), 5, 4, n, 0.0);
            spread(StepsLotsSaidBoundsTest::net, 3, 3, n, 1.0);
            spread(StepsLotsSaidBoundsTest::net, 3, 0, n, 0.0);
        }
    }

    private static void bitsAndInts() {
        Due.sentence(0, "behind n steps (0 .. 30) what b has, as bits; as an int, times 1000000.0, cut.");
        Supplier<WalkTimes> one = () -> Nets.plain(2, 1);
        for (int n = 0; n <= 30; n++) {
            spread(one, 0, 0, n, n % 2 == 0 ? 1.0 : 0.0);
            spread(one, 0, 1, n, n % 2 == 0 ? 0.0 : 1.0);
        }
        Supplier<WalkTimes> third = () -> Nets.of(3, Nets.way(0, 1, 1, 1), Nets.way(0, 2, 2, 1));
        Bound.asks(third, "bits of 1/3", 0x3fd5555555555555L, x -> x.bySteps(0, 1, 1, 0));
        Bound.asks(third, "bits of 2/3", 0x3fe5555555555555L, x -> x.bySteps(0, 2, 1, 0));
        Bound.asks(third, "1/3 as an int", 333333, x -> x.bySteps(0, 1, 1, 1));
        Bound.asks(third, "2/3 as an int", 666666, x -> x.bySteps(0, 2, 1, 1));
        Due.sentence(26, "BY STEPS: bits (what 0), an int (1).");
        Bound.asks(one, "bits of 1.0", 0x3ff0000000000000L, x -> x.bySteps(0, 0, 30, 0));
        Bound.asks(one, "bits of 0.0", 0, x -> x.bySteps(0, 1, 30, 0));
        Bound.asks(one, "1.0 as an int", 1000000, x -> x.bySteps(0, 0, 30, 1));
        Bound.asks(one, "0.0 as an int", 0, x -> x.bySteps(0, 1, 30, 1));
    }

    private static void byStepsRefused() {
        Due.sentence(26, "Refused as told: -1 either; -4; -6 30; -2.");
        Product.Call call = (x, v) -> x.bySteps(v[0], v[1], v[2], v[3]);
        Product.ofLongs(Nets::rich, "bySteps", call)
            .argument(Product.good(0, 4), NO_POINT)
            .argument(Product.good(0, 1, 4), NO_POINT)
            .argument(Product.good(0, 1, 30), Product.no(-4, LEAST, -1), Product.no(-6, 31, MOST))
            .argument(Product.good(0, 1), NO_WHAT).inOrder(-1, -4, -6, -2);
        Product.ofLongs(Nets::full, "bySteps", call)
            .argument(Product.good(5), Product.no(-1, 6))
            .argument(Product.good(5), Product.no(-1, 6))
            .argument(Product.good(0, 30), Product.no(-4, -1), Product.no(-6, 31))
            .argument(Product.good(0), Product.no(-2, 2)).inOrder(-1, -4, -6, -2);
    }

    private static int seed = 0;

    /** Sort 1 takes the sign away instead of its bit, sort 2 leaves out the 256. */
    private static int draw(int m, int sort) {
        seed = seed * 1664525 + 1013904223;
        int v = sort == 1 ? Math.abs(seed) : seed & 0x7fffffff;
        return sort == 2 ? v % m : v / 256 % m;
    }

    /** A ring 0 - 1 - 3 of LOAD 9, LENGTH 3, and a WAY of LOAD 1, LENGTH 7 from 1 to 2. */
    private static WalkTimes trap() {
        return Nets.of(4, Nets.way(0, 1, 9, 3), Nets.way(1, 3, 9, 3), Nets.way(3, 0, 9, 3), Nets.way(1, 2, 1, 7));
    }

    /** How many steps a WALK there takes from 0 to 2 by the seed that stands, 1000 if more than 99. */
    private static int trapped() {
        int at = 0;
        for (int step = 1; step <= 99; step++) {
            if (at == 1) {
                int d = draw(19, 0);
                at = d < 9 ? 0 : d < 18 ? 3 : 2;
            } else {
                int d = draw(18, 0);
                at = at == 0 ? (d < 9 ? 1 : 3) : d < 9 ? 1 : 0;
            }
            if (at == 2) {
                return step;
            }
        }
        return 1000;
    }

    private static void lot(Supplier<WalkTimes> made, int[] v, int came, int minutes) {
        String text = "lots(" + v[0] + ", " + v[1] + ", " + v[2] + ", " + v[3];
        Bound.asks(made, text + ", 0)", came, x -> x.lots(v[0], v[1], v[2], v[3], 0));
        Bound.asks(made, text + ", 1)", minutes, x -> x.lots(v[0], v[1], v[2], v[3], 1));
    }

    private static int[] by(int a, int b, int n, int z) {
        return new int[] {a, b, n, z};
    }

    private static void lots() {
        Due.sentence(0, "By LOT with a seed z: n WALKS (1 .. 30) from a,");
        Supplier<WalkTimes> one = () -> Nets.of(3, Nets.way(0, 1, 1, 7));
        for (int n = 1; n <= 30; n++) {
            lot(one, by(0, 1, n, 5), n, 7 * n);
            lot(one, by(1, 0, n, LEAST), n, 7 * n);
            lot(one, by(1, 2, n, MOST), 0, 0);
        }
        Due.sentence(27, "By LOT: in how many it comes (what 0), MINUTES (1).");
        lot(() -> Nets.of(2, Nets.way(0, 1, 1, 9, 5, 9)), by(0, 1, 30, 1), 30, 540);
        Due.sentence(0, "(a POINT without WAYS: the WALK ends there, no DRAW).");
        lot(Nets::empty, by(0, 1, 30, 5), 0, 0);
        lot(one, by(2, 0, 1, 5), 0, 0);
        lot(one, by(2, 1, 30, 5), 0, 0);
    }

    private static void sixtySteps() {
        Due.sentence(0, "each till it comes to b, 60 steps at most:");
        int[] found = new int[1001];
        for (int z = 1; z < 200000; z++) {
            seed = z;
            int took = trapped();
            if (took >= 57 && took <= 63 && found[took] == 0) {
                found[took] = z;
            }
        }
        for (int took = 57; took <= 63; took++) {
            Due.is("a seed for " + took + " steps was found", found[took] > 0 ? 1 : 0, 1);
            int came = took <= 60 ? 1 : 0;
            lot(StepsLotsSaidBoundsTest::trap, by(0, 2, 1, found[took]), came, came * (3 * (took - 1) + 7));
        }
    }

    /** Steps that a WALK takes which does not come are drawn, too. */
    private static void seedGoesOn() {
        Due.sentence(0, "in how many it comes (z goes on from WALK to WALK);"
            + " how many MINUTES all of these take that come.");
        int notAll = 0;
        for (int z = -20; z < 20; z++) {
            seed = z;
            int came = 0;
            int minutes = 0;
            for (int n = 1; n <= 30; n++) {
                int at = seed;
                int took = trapped();
                if (took > 60) {
                    notAll++;
                    seed = at;
                    for (int k = 0; k < 60; k++) {
                        draw(1, 0);
                    }
                } else {
                    came++;
                    minutes += 3 * (took - 1) + 7;
                }
                lot(StepsLotsSaidBoundsTest::trap, by(0, 2, n, z), came, minutes);
            }
        }
        Due.is("some did not come", notAll > 0 ? 1 : 0, 1);
    }

    /** WEIGHTS 3, 1 (a TOLL), 5 side by side, of MINUTES 1, 2, 3: which one is drawn is seen by them. */
    private static WalkTimes beside() {
        return Nets.of(2, Nets.way(0, 1, 3, 1), Nets.way(1, 0, 1, 3, 3, 9), Nets.way(0, 1, 5, 3));
    }

    private static void whichWay() {
        Due.sentence(0, "A step: a DRAW below the WEIGHTS of the POINT's WAYS together: it goes along the first WAY,"
            + " by numbers, by whose WEIGHT and those of all ahead of it together the DRAW is below that");
        int[] minutes = {1, 1, 1, 2, 3, 3, 3, 3, 3};
        int[] seen = new int[9];
        for (int z = 0; z < 200; z++) {
            seed = z;
            int d = draw(9, 0);
            seen[d]++;
            lot(StepsLotsSaidBoundsTest::beside, by(z % 2, 1 - z % 2, 1, z), 1, minutes[d]);
            lot(() -> Nets.lost(beside()), by(z % 2, 1 - z % 2, 1, z), 1, minutes[d]);
        }
        for (int d = 0; d < 9; d++) {
            Due.is("DRAW " + d + " was seen", seen[d] > 0 ? 1 : 0, 1);
        }
    }

    private static void draw() {
        Due.sentence(0, "A DRAW below m: z becomes z times 1664525 and 1013904223 (an int);"
            + " (z without its sign's bit by 256, cut) modulo m.");
        int[] minutes = {1, 1, 1, 2, 3, 3, 3, 3, 3};
        int[] seeds = {LEAST, LEAST + 1, -1000000007, -256, -255, -2, -1, 0, 1, 2, 255, 256, 1000000007, MOST - 1, MOST};
        boolean[] other = new boolean[3];
        boolean negative = false;
        for (int z : seeds) {
            seed = z;
            int want = 0;
            for (int n = 1; n <= 30; n++) {
                int at = seed;
                int d = draw(9, 0);
                negative |= seed < 0;
                want += minutes[d];
                lot(StepsLotsSaidBoundsTest::beside, by(0, 1, n, z), n, want);
                for (int sort = 1; sort <= 2; sort++) {
                    seed = at;
                    other[sort] |= minutes[draw(9, sort)] != minutes[d];
                }
            }
        }
        Due.is("a seed below 0 was seen", negative ? 1 : 0, 1);
        Due.is("the sign taken away would be seen", other[1] ? 1 : 0, 1);
        Due.is("not by 256 would be seen", other[2] ? 1 : 0, 1);
        // By hand: 0 becomes 1013904223, by 256 3960563, modulo 9 it is 8.
        Bound.asks(StepsLotsSaidBoundsTest::beside, "lots(0, 1, 1, 0, 1)", 3, x -> x.lots(0, 1, 1, 0, 1));
    }

    private static void lotsRefused() {
        Due.sentence(27, "-1 either (one twice, too); -4 (below 1); -6 30; -2.");
        Product.Call call = (x, v) -> x.lots(v[0], v[1], v[2], 7, v[3]);
        Product.ofInts(Nets::rich, "lots", call)
            .argument(Product.good(0, 4), NO_POINT)
            .argument(Product.good(1, 3), NO_POINT)
            .argument(Product.good(1, 30), Product.no(-4, LEAST, -1, 0), Product.no(-6, 31, MOST))
            .argument(Product.good(0, 1), NO_WHAT).inOrder(-1, -4, -6, -2);
        for (int a = 0; a < 5; a++) {
            int p = a;
            Product.ofInts(Nets::rich, "lots, " + a + " twice", (x, v) -> x.lots(p, p, v[0], 7, v[1]))
                .argument(Product.no(-1, 0, 1, 30, 31)).argument(Product.no(-1, -1, 0, 1, 2)).inOrder(-1);
        }
        Product.ofInts(Nets::full, "lots", call)
            .argument(Product.good(5), Product.no(-1, 6))
            .argument(Product.good(0), Product.no(-1, 6))
            .argument(Product.good(1, 30), Product.no(-4, 0), Product.no(-6, 31))
            .argument(Product.good(1), Product.no(-2, 2)).inOrder(-1, -4, -6, -2);
        Bound.asks(Nets::rich, "lots with any seed", 1, x -> x.lots(3, 4, 1, LEAST, 0));
        Bound.asks(Nets::rich, "lots with any seed", 1, x -> x.lots(3, 4, 1, MOST, 0));
    }

    private static void said(Supplier<WalkTimes> made, int a, int b, String want) {
        Due.said("said(" + a + ", " + b + ")", Due.saidOf(made.get(), a, b), want);
    }

    private static void said() {
        Due.sentence(0, "SAID of a journey (a to b), in letters: a, \" to \", b, \": \", then TIME as a fraction"
            + " (above, then \"/\" and below the line, if that is not 1), \" there, \", COMMUTE likewise, \" both ways\";");
        said(Nets::rich, 0, 1, "0 to 1: 150/13 there, 252/13 both ways");
        said(Nets::rich, 1, 0, "1 to 0: 102/13 there, 252/13 both ways");
        said(Nets::rich, 4, 3, "4 to 3: 9 there, 18 both ways");
        for (int a = 0; a < 5; a++) {
            said(Nets::rich, a, a, a + " to " + a + ": 0 there, 0 both ways");
            said(() -> Nets.of(6), a, a, a + " to " + a + ": 0 there, 0 both ways");
        }
        // A whole TIME and a COMMUTE that is none, and the other way round.
        Supplier<WalkTimes> unlike = () -> Nets.of(3, Nets.way(0, 1, 3, 2, 5, 4), Nets.way(1, 2, 2, 7, 3, 2));
        said(unlike, 0, 2, "0 to 2: 28 there, 130/3 both ways");
        said(unlike, 2, 0, "2 to 0: 46/3 there, 130/3 both ways");
        said(() -> Nets.of(2, Nets.way(0, 1, 1, 1), Nets.way(0, 1, 1, 2)), 0, 1, "0 to 1: 3/2 there, 3 both ways");
        Due.sentence(0, "if a doesn't REACH b, \"never\" behind \": \".");
        said(Nets::rich, 0, 3, "0 to 3: never");
        said(Nets::rich, 4, 0, "4 to 0: never");
        said(() -> Nets.of(6), 5, 0, "5 to 0: never");
    }

    private static void says() {
        Due.sentence(28, "Letter i of what is SAID (i -1: how many).");
        String text = "0 to 1: 150/13 there, 252/13 both ways";
        Bound.asks(Nets::rich, "says(0, 1, -1)", text.length(), x -> x.says(0, 1, -1));
        for (int k = 0; k < text.length(); k++) {
            int i = k;
            Bound.asks(Nets::rich, "says(0, 1, " + k + ")", text.charAt(k), x -> x.says(0, 1, i));
        }
        Bound.asks(Nets::rich, "says(0, 3, -1)", 13, x -> x.says(0, 3, -1));
        Bound.asks(Nets::rich, "says(0, 3, 12)", 'r', x -> x.says(0, 3, 12));
        Bound.asks(Nets::rich, "says(2, 2, -1)", 28, x -> x.says(2, 2, -1));
    }

    private static void saysRefused() {
        Due.sentence(28, "-1 any.");
        Product.Call call = (x, v) -> x.says(v[0], v[1], v[2]);
        Product.ofInts(Nets::rich, "says", call)
            .argument(Product.good(0), NO_POINT).argument(Product.good(1), NO_POINT)
            .argument(Product.good(-1, 0, 37), Product.no(-1, LEAST, -2, 38, 119, 120, 121, MOST)).inOrder(-1);
        Product.ofInts(Nets::rich, "says", call)
            .argument(Product.good(0, 1, 2), NO_POINT).argument(Product.good(3, 4), NO_POINT)
            .argument(Product.good(-1, 0, 12), Product.no(-1, LEAST, -2, 13, MOST)).inOrder(-1);
        Product.ofInts(Nets::empty, "says", call)
            .argument(Product.good(3), Product.no(-1, 4)).argument(Product.good(3), Product.no(-1, 4))
            .argument(Product.good(-1, 0, 27), Product.no(-1, -2, 28)).inOrder(-1);
    }
}
