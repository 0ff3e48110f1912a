import java.math.BigInteger;
import java.util.Random;
import java.util.function.Supplier;

/**
 * Promises 12 to 28 and 35 on many nets by chance (always the same ones), small, great and of the
 * greatest numbers that may be, against odds and fractions worked out in another way: one equation
 * a POINT, as the document tells a WALK, over fractions without a limit.
 */
public final class ExactAnswersTest {
    private static final Random CHANCE = new Random(20261117);

    /** A fraction in least terms; null stands for none. */
    private record Fraction(BigInteger above, BigInteger below) {
        static final Fraction ZERO = of(0, 1);
        static final Fraction ONE = of(1, 1);

        static Fraction of(long above, long below) {
            return least(BigInteger.valueOf(above), BigInteger.valueOf(below));
        }

        static Fraction least(BigInteger above, BigInteger below) {
            BigInteger g = above.gcd(below);
            if (below.signum() < 0) {
                g = g.negate();
            }
            return new Fraction(above.divide(g), below.divide(g));
        }

        Fraction plus(Fraction o) {
            return least(above.multiply(o.below).add(o.above.multiply(below)), below.multiply(o.below));
        }

        Fraction minus(Fraction o) {
            return plus(new Fraction(o.above.negate(), o.below));
        }

        Fraction times(Fraction o) {
            return least(above.multiply(o.above), below.multiply(o.below));
        }

        Fraction by(Fraction o) {
            return least(above.multiply(o.below), below.multiply(o.above));
        }

        boolean isZero() {
            return above.signum() == 0;
        }

        String text() {
            return below.equals(BigInteger.ONE) ? above.toString() : above + "/" + below;
        }
    }

    /** Greater than each fraction is none. */
    private static int compare(Fraction a, Fraction b) {
        if (a == null || b == null) {
            return a == b ? 0 : a == null ? 1 : -1;
        }
        return a.above.multiply(b.below).compareTo(b.above.multiply(a.below));
    }

    private record Way(int first, int second, int weight, int minutes) {
        boolean touches(int x) {
            return first == x || second == x;
        }

        int other(int x) {
            return first + second - x;
        }
    }

    private static int points;
    /** What the net is like, for those answers that are not as due. */
    private static String net;

    public static void main(String[] args) {
        for (int k = 0; k < 400; k++) {
            Supplier<WalkTimes> made = someNet(k % 4);
            net = Due.state(made.get());
            Way[] ways = waysOf(made.get());
            journeys(made, ways);
            if (k % 4 == 0) {
                unsure(made.get(), ways);
            }
            steps(made.get(), ways);
            lots(made.get(), ways);
        }
        Due.end("ExactAnswersTest");
    }

    private static int some(int least, int most) {
        return least + CHANCE.nextInt(most - least + 1);
    }

    /**
     * Sort 0: any; 1: few WAYS; 2: six POINTS, ten WAYS; 3: the same with greatest numbers. Made anew
     * for each journey: an object answers but 512 calls.
     */
    private static Supplier<WalkTimes> someNet(int sort) {
        int many = sort >= 2 ? 6 : some(2, 6);
        int[][] ways = new int[sort >= 2 ? 10 : sort == 1 ? some(0, 4) : some(0, 10)][];
        for (int k = 0; k < ways.length; k++) {
            int a = some(0, many - 1);
            int b = (a + some(1, many - 1)) % many;
            int load = sort == 3 ? some(8, 9) : some(1, 9);
            int length = sort == 3 ? some(8, 9) : some(1, 9);
            int kind = sort == 3 ? (some(0, 1) == 0 ? 2 : 5) : some(0, 5);
            ways[k] = Nets.way(a, b, load, length, kind, sort == 3 ? some(8, 9) : some(0, 9));
        }
        return () -> Nets.of(many, ways);
    }

    private static Way[] waysOf(WalkTimes x) {
        points = x.count(0);
        Way[] ways = new Way[x.count(1)];
        for (int k = 0; k < ways.length; k++) {
            ways[k] = new Way(x.of(k, 0), x.of(k, 1), x.of(k, 6), x.of(k, 7));
        }
        return ways;
    }

    private static Way[] without(Way[] ways, int gone) {
        int kept = 0;
        Way[] rest = new Way[ways.length - Integer.bitCount(gone)];
        for (int k = 0; k < ways.length; k++) {
            if ((gone >> k & 1) == 0) {
                rest[kept++] = ways[k];
            }
        }
        return rest;
    }

    private static boolean reach(Way[] ways, int a, int b) {
        boolean[] seen = new boolean[points];
        seen[a] = true;
        for (int round = 0; round < points; round++) {
            for (Way way : ways) {
                if (seen[way.first] || seen[way.second]) {
                    seen[way.first] = true;
                    seen[way.second] = true;
                }
            }
        }
        return seen[b];
    }

    /** Answers v with v(x) = plus(x) + sum of odds(x to y) v(y) where x is open, v(x) = fixed(x) where not. */
    private static Fraction[] solve(Way[] ways, boolean[] open, Fraction[] given) {
        int n = points;
        Fraction[][] m = new Fraction[n][n + 1];
        for (int x = 0; x < n; x++) {
            for (int y = 0; y < n; y++) {
                m[x][y] = x == y ? Fraction.ONE : Fraction.ZERO;
            }
            m[x][n] = given[x];
            if (open[x]) {
                for (Way way : ways) {
                    if (way.touches(x)) {
                        m[x][way.other(x)] = m[x][way.other(x)].minus(odds(ways, way, x));
                    }
                }
            }
        }
        for (int c = 0; c < n; c++) {
            int p = c;
            while (m[p][c].isZero()) {
                p++;
            }
            Fraction[] row = m[p];
            m[p] = m[c];
            m[c] = row;
            for (int r = 0; r < n; r++) {
                if (r != c && !m[r][c].isZero()) {
                    Fraction f = m[r][c].by(m[c][c]);
                    for (int k = c; k <= n; k++) {
                        m[r][k] = m[r][k].minus(f.times(m[c][k]));
                    }
                }
            }
        }
        Fraction[] v = new Fraction[n];
        for (int x = 0; x < n; x++) {
            v[x] = m[x][n].by(m[x][x]);
        }
        return v;
    }

    private static Fraction odds(Way[] ways, Way one, int x) {
        int all = 0;
        for (Way way : ways) {
            all += way.touches(x) ? way.weight : 0;
        }
        return Fraction.of(one.weight, all);
    }

    private static boolean[] openTo(Way[] ways, int b) {
        boolean[] open = new boolean[points];
        for (int x = 0; x < points; x++) {
            open[x] = x != b && reach(ways, x, b);
        }
        return open;
    }

    /** From each POINT: MINUTES (or STEPS) to b; those that don't REACH it have null. */
    private static Fraction[] timesTo(Way[] ways, int b, boolean steps) {
        boolean[] open = openTo(ways, b);
        Fraction[] given = new Fraction[points];
        for (int x = 0; x < points; x++) {
            given[x] = Fraction.ZERO;
            for (Way way : ways) {
                if (open[x] && way.touches(x)) {
                    Fraction took = Fraction.of(steps ? 1 : way.minutes, 1);
                    given[x] = given[x].plus(odds(ways, way, x).times(took));
                }
            }
        }
        Fraction[] v = solve(ways, open, given);
        for (int x = 0; x < points; x++) {
            v[x] = x == b || open[x] ? v[x] : null;
        }
        return v;
    }

    private static Fraction visits(Way[] ways, int a, int b, int c) {
        boolean[] open = openTo(ways, b);
        Fraction[] given = new Fraction[points];
        for (int x = 0; x < points; x++) {
            given[x] = x == c && open[x] ? Fraction.ONE : Fraction.ZERO;
        }
        return c == b ? Fraction.ZERO : solve(ways, open, given)[a];
    }

    /** COMMUTE in steps is twice all WEIGHTS (of what REACHES them) times RESISTANCE. */
    private static Fraction resistance(Way[] ways, int a, int b) {
        Fraction there = timesTo(ways, b, true)[a];
        if (there == null || a == b) {
            return there;
        }
        long all = 0;
        for (Way way : ways) {
            all += reach(ways, a, way.first) ? 2L * way.weight : 0;
        }
        return there.plus(timesTo(ways, a, true)[b]).by(Fraction.of(all, 1));
    }

    private static Fraction ahead(Way[] ways, int from, int goals, int one) {
        boolean[] open = new boolean[points];
        Fraction[] given = new Fraction[points];
        for (int x = 0; x < points; x++) {
            open[x] = (goals >> x & 1) == 0 && reach(ways, x, from);
            given[x] = x == one ? Fraction.ONE : Fraction.ZERO;
        }
        return solve(ways, open, given)[from];
    }

    private static Fraction flow(Way[] ways, int way, int a, int b) {
        Way w = ways[way];
        if (!reach(ways, a, w.first)) {
            return Fraction.ZERO;
        }
        Fraction along = visits(ways, a, b, w.first).times(odds(ways, w, w.first));
        Fraction back = visits(ways, a, b, w.second).times(odds(ways, w, w.second));
        return along.minus(back);
    }

    private static void due(String call, long above, long below, Fraction want) {
        if (want == null) {
            Due.fraction(call, above, below, 4000000000000000003L, 4000000000000000003L);
        } else {
            Due.fraction(call, above, below, want.above.longValueExact(), want.below.longValueExact());
        }
    }

    private static void journeys(Supplier<WalkTimes> made, Way[] ways) {
        Fraction[][] times = new Fraction[points][];
        for (int b = 0; b < points; b++) {
            times[b] = timesTo(ways, b, false);
        }
        for (int a = 0; a < points; a++) {
            for (int b = 0; b < points; b++) {
                journey(made.get(), ways, a, b, times);
            }
            farthest(made.get(), a, times);
        }
        middle(made.get(), times);
        aheads(made, ways);
        laid(made.get(), times);
    }

    private static void journey(WalkTimes x, Way[] ways, int a, int b, Fraction[][] times) {
        String to = "(" + a + ", " + b + ") of " + net;
        Fraction there = times[b][a];
        Fraction both = there == null ? null : there.plus(times[a][b]);
        due("time" + to, x.time(a, b, 0), x.time(a, b, 1), there);
        due("steps" + to, x.steps(a, b, 0), x.steps(a, b, 1), timesTo(ways, b, true)[a]);
        due("commute" + to, x.commute(a, b, 0), x.commute(a, b, 1), both);
        due("resistance" + to, x.resistance(a, b, 0), x.resistance(a, b, 1), resistance(ways, a, b));
        String said = there == null ? "never" : there.text() + " there, " + both.text() + " both ways";
        Due.said("says" + to, Due.saidOf(x, a, b), a + " to " + b + ": " + said);
        for (int c = 0; c < points; c++) {
            if (c != b) {
                Fraction want = there == null ? null : visits(ways, a, b, c);
                due("visits of " + c + to, x.visits(a, b, c, 0), x.visits(a, b, c, 1), want);
            }
        }
        if (a == b) {
            return;
        }
        for (int way = 0; way < ways.length; way++) {
            Fraction want = there == null ? null : flow(ways, way, a, b);
            due("flow of " + way + to, x.flow(way, a, b, 0), x.flow(way, a, b, 1), want);
        }
        Due.is("added" + to, x.added(a, b), added(ways, a, b));
        Due.is("missed" + to, x.missed(a, b), missed(ways, a, b));
        int bridges = 0;
        for (int way = 0; way < ways.length; way++) {
            bridges |= reach(without(ways, 1 << way), a, b) ? 0 : 1 << way;
        }
        Due.is("bridges" + to, x.bridges(a, b), there == null ? -3 : bridges);
    }

    private static int added(Way[] ways, int a, int b) {
        Fraction least = timesTo(ways, b, false)[a];
        int best = -9;
        Way[] more = java.util.Arrays.copyOf(ways, ways.length + 1);
        for (int p = 0; p < points; p++) {
            for (int q = p + 1; q < points; q++) {
                more[ways.length] = new Way(p, q, 1, 1);
                Fraction then = timesTo(more, b, false)[a];
                if (compare(then, least) < 0) {
                    least = then;
                    best = 10 * p + q;
                }
            }
        }
        return best;
    }

    private static int missed(Way[] ways, int a, int b) {
        int most = -9;
        Fraction greatest = null;
        for (int way = 0; way < ways.length; way++) {
            Fraction then = resistance(without(ways, 1 << way), a, b);
            if (most < 0 || compare(then, greatest) > 0) {
                most = way;
                greatest = then;
            }
        }
        return most;
    }

    private static void farthest(WalkTimes x, int a, Fraction[][] times) {
        int most = -9;
        for (int b = 0; b < points; b++) {
            if (b != a && times[b][a] != null && (most < 0 || compare(times[b][a], times[most][a]) > 0)) {
                most = b;
            }
        }
        Due.is("farthest(" + a + ") of " + net, x.farthest(a), most);
    }

    private static void middle(WalkTimes x, Fraction[][] times) {
        int best = -9;
        Fraction least = null;
        for (int a = 0; a < points; a++) {
            Fraction sum = Fraction.ZERO;
            for (int b = 0; b < points; b++) {
                sum = sum == null || times[b][a] == null ? null : sum.plus(times[b][a]);
            }
            if (compare(sum, least) < 0) {
                least = sum;
                best = a;
            }
        }
        Due.is("middle() of " + net, x.middle(), best);
    }

    private static void aheads(Supplier<WalkTimes> made, Way[] ways) {
        for (int from = 0; from < points; from++) {
            for (int goals = 0; goals < 1 << points; goals++) {
                WalkTimes x = made.get();
                boolean some = (x.reaches(from) & goals) != 0;
                for (int one = 0; one < points; one++) {
                    boolean isGoal = (goals >> one & 1) == 1;
                    Fraction want = some && isGoal ? ahead(ways, from, goals, one) : null;
                    due("ahead(" + from + ", " + goals + ", " + one + ") of " + net,
                        x.ahead(from, goals, one, 0), x.ahead(from, goals, one, 1), want);
                }
            }
        }
    }

    private static void laid(WalkTimes x, Fraction[][] times) {
        for (int b = 0; b < points; b++) {
            x.list(0, 2 * points);
            Due.is("lays(0, " + b + ", 0)", x.lays(0, b, 0), points);
            Due.is("judge(0, " + b + ")", x.judge(0, b), -9);
            for (int a = 0; a < points; a++) {
                Fraction want = times[b][a];
                Due.is("laid above", x.look(0, 2 * a), want == null ? 1 : want.above.longValueExact());
                Due.is("laid below", x.look(0, 2 * a + 1), want == null ? 0 : want.below.longValueExact());
            }
        }
    }

    private static void unsure(WalkTimes x, Way[] ways) {
        int many = Math.min(6, ways.length);
        int a = some(0, points - 1);
        int b = some(0, points - 1);
        int t = some(2, 20);
        int m = some(0, 3) == 0 ? some(0, 999) : some(0, 99);
        Fraction comes = Fraction.ZERO;
        Fraction soon = Fraction.ZERO;
        for (int gone = 0; gone < 1 << many; gone++) {
            Fraction odds = Fraction.ONE;
            for (int k = 0; k < many; k++) {
                odds = odds.times(Fraction.of((gone >> k & 1) == 1 ? 1 : t - 1, t));
            }
            Way[] there = without(ways, gone);
            Fraction time = timesTo(there, b, false)[a];
            comes = time == null ? comes : comes.plus(odds);
            soon = compare(time, Fraction.of(m, 1)) > 0 ? soon : soon.plus(odds);
        }
        String to = "(" + a + ", " + b + ", " + t + ", " + m + ") of " + net;
        due("sure" + to, x.sure(a, b, t, 0), x.sure(a, b, t, 1), comes);
        due("fast" + to, x.fast(a, b, t, m, 0), x.fast(a, b, t, m, 1), soon);
    }

    private static void steps(WalkTimes x, Way[] ways) {
        int a = some(0, points - 1);
        double[] now = new double[points];
        now[a] = 1.0;
        for (int n = 0; n <= 30; n++) {
            for (int b = 0; b < points; b++) {
                Due.is("bySteps(" + a + ", " + b + ", " + n + ", 0) of " + net,
                    x.bySteps(a, b, n, 0), Double.doubleToLongBits(now[b]));
                Due.is("bySteps(" + a + ", " + b + ", " + n + ", 1) of " + net,
                    x.bySteps(a, b, n, 1), (int) (now[b] * 1000000.0));
            }
            double[] then = new double[points];
            for (int p = 0; p < points; p++) {
                int all = 0;
                for (Way way : ways) {
                    all += way.touches(p) ? way.weight : 0;
                }
                if (all == 0) {
                    then[p] = now[p];
                }
                for (Way way : ways) {
                    if (way.touches(p)) {
                        double flows = now[p] * (double) way.weight / (double) all;
                        then[way.other(p)] = then[way.other(p)] + flows;
                    }
                }
            }
            now = then;
        }
    }

    private static long z;

    private static int draw(int m) {
        z = (z * 1664525L + 1013904223L) & 0xffffffffL;
        return (int) ((z & 0x7fffffffL) / 256 % m);
    }

    private static void lots(WalkTimes x, Way[] ways) {
        int a = some(0, points - 1);
        int b = (a + some(1, points - 1)) % points;
        int n = some(1, 30);
        int seed = CHANCE.nextInt();
        z = seed & 0xffffffffL;
        int came = 0;
        int minutes = 0;
        for (int k = 0; k < n; k++) {
            int took = lot(ways, a, b);
            came += took < 0 ? 0 : 1;
            minutes += Math.max(0, took);
        }
        String to = "(" + a + ", " + b + ", " + n + ", " + seed + ") of " + net;
        Due.is("lots" + to, x.lots(a, b, n, seed, 0), came);
        Due.is("lots, MINUTES" + to, x.lots(a, b, n, seed, 1), minutes);
    }

    private static int lot(Way[] ways, int a, int b) {
        int at = a;
        int took = 0;
        for (int step = 1; step <= 60; step++) {
            java.util.ArrayList<Way> tickets = new java.util.ArrayList<>();
            for (Way way : ways) {
                for (int k = 0; way.touches(at) && k < way.weight; k++) {
                    tickets.add(way);
                }
            }
            if (tickets.isEmpty()) {
                return -1;
            }
            Way way = tickets.get(draw(tickets.size()));
            took += way.minutes;
            at = way.other(at);
            if (at == b) {
                return took;
            }
        }
        return -1;
    }
}
