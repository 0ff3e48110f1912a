import java.util.Random;
import java.util.function.Supplier;

/**
 * Promises 12 to 28 and 35 on many nets by chance (always the same ones), small, great and of the
 * greatest numbers that may be, against Exact: one equation a POINT over fractions without a limit.
 */
public final class ExactAnswersTest {
    private static final Random CHANCE = new Random(20261117);

    private static Exact net;
    /** What the net is like, for those answers that are not as due. */
    private static String like;

    public static void main(String[] args) {
        for (int k = 0; k < 400; k++) {
            Supplier<WalkTimes> made = someNet(k % 4);
            like = Due.state(made.get());
            net = netOf(made.get());
            journeys(made);
            if (k % 4 == 0) {
                unsure(made.get());
            }
            steps(made.get());
            lots(made.get());
        }
        Due.end("ExactAnswersTest");
    }

    private static int some(int least, int most) {
        return least + CHANCE.nextInt(most - least + 1);
    }

    /**
     * Sort 0: any; 1: few WAYS; 2: six POINTS, ten WAYS; 3: the same with greatest numbers. Made anew
     * for each journey: an object answers but 512 calls.
     */
    private static Supplier<WalkTimes> someNet(int sort) {
        int many = sort >= 2 ? 6 : some(2, 6);
        int[][] ways = new int[sort >= 2 ? 10 : sort == 1 ? some(0, 4) : some(0, 10)][];
        for (int k = 0; k < ways.length; k++) {
            int a = some(0, many - 1);
            int b = (a + some(1, many - 1)) % many;
            int load = sort == 3 ? some(8, 9) : some(1, 9);
            int length = sort == 3 ? some(8, 9) : some(1, 9);
            int kind = sort == 3 ? (some(0, 1) == 0 ? 2 : 5) : some(0, 5);
            ways[k] = Nets.way(a, b, load, length, kind, sort == 3 ? some(8, 9) : some(0, 9));
        }
        return () -> Nets.of(many, ways);
    }

    private static Exact netOf(WalkTimes x) {
        Exact.Way[] ways = new Exact.Way[x.count(1)];
        for (int k = 0; k < ways.length; k++) {
            ways[k] = new Exact.Way(x.of(k, 0), x.of(k, 1), x.of(k, 6), x.of(k, 7));
        }
        return new Exact(x.count(0), ways);
    }

    private static void due(String call, long above, long below, Exact.Fraction want) {
        if (want == null) {
            Due.fraction(call, above, below, 4000000000000000003L, 4000000000000000003L);
        } else {
            Due.fraction(call, above, below, want.part(0), want.part(1));
        }
    }

    private static void journeys(Supplier<WalkTimes> made) {
        for (int a = 0; a < net.points(); a++) {
            for (int b = 0; b < net.points(); b++) {
                journey(made.get(), a, b);
            }
            Due.is("farthest(" + a + ") of " + like, made.get().farthest(a), net.farthest(a));
        }
        Due.is("middle() of " + like, made.get().middle(), net.middle());
        aheads(made);
        laid(made.get());
    }

    private static void journey(WalkTimes x, int a, int b) {
        String to = "(" + a + ", " + b + ") of " + like;
        Exact.Fraction there = net.time(a, b);
        Exact.Fraction both = there == null ? null : there.plus(net.time(b, a));
        due("time" + to, x.time(a, b, 0), x.time(a, b, 1), there);
        due("steps" + to, x.steps(a, b, 0), x.steps(a, b, 1), net.timesTo(b, true)[a]);
        due("commute" + to, x.commute(a, b, 0), x.commute(a, b, 1), both);
        due("resistance" + to, x.resistance(a, b, 0), x.resistance(a, b, 1), net.resistance(a, b));
        Due.said("says" + to, Due.saidOf(x, a, b), net.said(a, b));
        for (int c = 0; c < net.points(); c++) {
            if (c != b) {
                Exact.Fraction want = there == null ? null : net.visits(a, b, c);
                due("visits of " + c + to, x.visits(a, b, c, 0), x.visits(a, b, c, 1), want);
            }
        }
        if (a != b) {
            between(x, a, b, to);
        }
    }

    private static void between(WalkTimes x, int a, int b, String to) {
        boolean comes = net.reach(a, b);
        int bridges = 0;
        for (int way = 0; way < net.ways().length; way++) {
            Exact.Fraction want = comes ? net.flow(way, a, b) : null;
            due("flow of " + way + to, x.flow(way, a, b, 0), x.flow(way, a, b, 1), want);
            bridges |= net.without(1 << way).reach(a, b) ? 0 : 1 << way;
        }
        Due.is("added" + to, x.added(a, b), net.added(a, b));
        Due.is("missed" + to, x.missed(a, b), net.missed(a, b));
        Due.is("bridges" + to, x.bridges(a, b), comes ? bridges : -3);
    }

    private static void aheads(Supplier<WalkTimes> made) {
        for (int from = 0; from < net.points(); from++) {
            for (int goals = 0; goals < 1 << net.points(); goals++) {
                WalkTimes x = made.get();
                boolean some = (x.reaches(from) & goals) != 0;
                for (int one = 0; one < net.points(); one++) {
                    boolean isGoal = (goals >> one & 1) == 1;
                    Exact.Fraction want = some && isGoal ? net.ahead(from, goals, one) : null;
                    due("ahead(" + from + ", " + goals + ", " + one + ") of " + like,
                        x.ahead(from, goals, one, 0), x.ahead(from, goals, one, 1), want);
                }
            }
        }
    }

    private static void laid(WalkTimes x) {
        for (int b = 0; b < net.points(); b++) {
            x.list(0, 2 * net.points());
            Due.is("lays(0, " + b + ", 0)", x.lays(0, b, 0), net.points());
            Due.is("judge(0, " + b + ")", x.judge(0, b), -9);
            Exact.Fraction[] times = net.timesTo(b, false);
            for (int a = 0; a < net.points(); a++) {
                Exact.Fraction want = times[a];
                Due.is("laid above", x.look(0, 2 * a), want == null ? 1 : want.part(0));
                Due.is("laid below", x.look(0, 2 * a + 1), want == null ? 0 : want.part(1));
            }
        }
    }

    private static void unsure(WalkTimes x) {
        int a = some(0, net.points() - 1);
        int b = some(0, net.points() - 1);
        int t = some(2, 20);
        int m = some(0, 3) == 0 ? some(0, 999) : some(0, 99);
        String to = "(" + a + ", " + b + ", " + t + ", " + m + ") of " + like;
        due("sure" + to, x.sure(a, b, t, 0), x.sure(a, b, t, 1), net.likely(a, b, t, -1));
        due("fast" + to, x.fast(a, b, t, m, 0), x.fast(a, b, t, m, 1), net.likely(a, b, t, m));
    }

    private static void steps(WalkTimes x) {
        int a = some(0, net.points() - 1);
        for (int n = 0; n <= 30; n++) {
            double[] has = net.bySteps(a, n);
            for (int b = 0; b < net.points(); b++) {
                Due.is("bySteps(" + a + ", " + b + ", " + n + ", 0) of " + like,
                    x.bySteps(a, b, n, 0), Double.doubleToLongBits(has[b]));
                Due.is("bySteps(" + a + ", " + b + ", " + n + ", 1) of " + like,
                    x.bySteps(a, b, n, 1), (int) (has[b] * 1000000.0));
            }
        }
    }

    private static void lots(WalkTimes x) {
        int a = some(0, net.points() - 1);
        int b = (a + some(1, net.points() - 1)) % net.points();
        int n = some(1, 30);
        int seed = CHANCE.nextInt();
        int[] want = net.lots(a, b, n, seed);
        String to = "(" + a + ", " + b + ", " + n + ", " + seed + ") of " + like;
        Due.is("lots" + to, x.lots(a, b, n, seed, 0), want[0]);
        Due.is("lots, MINUTES" + to, x.lots(a, b, n, seed, 1), want[1]);
    }
}
