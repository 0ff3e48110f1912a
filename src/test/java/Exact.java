import java.math.BigInteger;

/**
 * Odds and fractions of WALKS on a net, worked out as the document tells a WALK: one equation a POINT,
 * over fractions without a limit.
 */
record Exact(int points, Exact.Way[] ways) {

    /** A fraction in least terms; null stands for none. */
    record Fraction(BigInteger above, BigInteger below) {
        static final Fraction ZERO = of(0, 1);
        static final Fraction ONE = of(1, 1);

        static Fraction of(long above, long below) {
            return least(BigInteger.valueOf(above), BigInteger.valueOf(below));
        }

        private static Fraction least(BigInteger above, BigInteger below) {
            BigInteger g = above.gcd(below);
            if (below.signum() < 0) {
                g = g.negate();
            }
            return new Fraction(above.divide(g), below.divide(g));
        }

        /** Part 0 above, 1 below the line. */
        long part(int part) {
            return (part == 0 ? above : below).longValueExact();
        }

        Fraction plus(Fraction o) {
            return least(above.multiply(o.below).add(o.above.multiply(below)), below.multiply(o.below));
        }

        Fraction minus(Fraction o) {
            return plus(new Fraction(o.above.negate(), o.below));
        }

        Fraction times(Fraction o) {
            return least(above.multiply(o.above), below.multiply(o.below));
        }

        Fraction by(Fraction o) {
            return least(above.multiply(o.below), below.multiply(o.above));
        }

        boolean isZero() {
            return above.signum() == 0;
        }

        String text() {
            return below.equals(BigInteger.ONE) ? above.toString() : above + "/" + below;
        }
    }

    /** What of a WAY counts for WALKS. */
    record Way(int first, int second, int weight, int minutes) {
        boolean touches(int x) {
            return first == x || second == x;
        }

        int other(int x) {
            return first + second - x;
        }
    }

    /** Greater than each fraction is none. */
    static int compare(Fraction a, Fraction b) {
        if (a == null || b == null) {
            return a == b ? 0 : a == null ? 1 : -1;
        }
        return a.above.multiply(b.below).compareTo(b.above.multiply(a.below));
    }

    Exact without(int gone) {
        int kept = 0;
        Way[] rest = new Way[ways.length - Integer.bitCount(gone)];
        for (int k = 0; k < ways.length; k++) {
            if ((gone >> k & 1) == 0) {
                rest[kept++] = ways[k];
            }
        }
        return new Exact(points, rest);
    }

    Exact with(Way one) {
        Way[] more = java.util.Arrays.copyOf(ways, ways.length + 1);
        more[ways.length] = one;
        return new Exact(points, more);
    }

    boolean reach(int a, int b) {
        boolean[] seen = new boolean[points];
        seen[a] = true;
        for (int round = 0; round < points; round++) {
            for (Way way : ways) {
                if (seen[way.first] || seen[way.second]) {
                    seen[way.first] = true;
                    seen[way.second] = true;
                }
            }
        }
        return seen[b];
    }

    int weightsAt(int x) {
        int all = 0;
        for (Way way : ways) {
            all += way.touches(x) ? way.weight : 0;
        }
        return all;
    }

    private Fraction odds(Way one, int x) {
        return Fraction.of(one.weight, weightsAt(x));
    }

    /** Answers v with v(x) = given(x) + sum of odds(x to y) v(y) where x is open, v(x) = given(x) where not. */
    private Fraction[] solve(boolean[] open, Fraction[] given) {
        int n = points;
        Fraction[][] m = equations(open, given);
        for (int c = 0; c < n; c++) {
            int p = c;
            while (m[p][c].isZero()) {
                p++;
            }
            Fraction[] row = m[p];
            m[p] = m[c];
            m[c] = row;
            for (int r = 0; r < n; r++) {
                if (r != c && !m[r][c].isZero()) {
                    Fraction f = m[r][c].by(m[c][c]);
                    for (int k = c; k <= n; k++) {
                        m[r][k] = m[r][k].minus(f.times(m[c][k]));
                    }
                }
            }
        }
        Fraction[] v = new Fraction[n];
        for (int x = 0; x < n; x++) {
            v[x] = m[x][n].by(m[x][x]);
        }
        return v;
    }

    private Fraction[][] equations(boolean[] open, Fraction[] given) {
        Fraction[][] m = new Fraction[points][points + 1];
        for (int x = 0; x < points; x++) {
            for (int y = 0; y < points; y++) {
                m[x][y] = x == y ? Fraction.ONE : Fraction.ZERO;
            }
            m[x][points] = given[x];
            for (Way way : ways) {
                if (open[x] && way.touches(x)) {
                    m[x][way.other(x)] = m[x][way.other(x)].minus(odds(way, x));
                }
            }
        }
        return m;
    }

    private boolean[] openTo(int b) {
        boolean[] open = new boolean[points];
        for (int x = 0; x < points; x++) {
            open[x] = x != b && reach(x, b);
        }
        return open;
    }

    /** From each POINT: MINUTES (or STEPS) to b; those that don't REACH it have null. */
    Fraction[] timesTo(int b, boolean steps) {
        boolean[] open = openTo(b);
        Fraction[] given = new Fraction[points];
        for (int x = 0; x < points; x++) {
            given[x] = Fraction.ZERO;
            for (Way way : ways) {
                if (open[x] && way.touches(x)) {
                    Fraction took = Fraction.of(steps ? 1 : way.minutes, 1);
                    given[x] = given[x].plus(odds(way, x).times(took));
                }
            }
        }
        Fraction[] v = solve(open, given);
        for (int x = 0; x < points; x++) {
            v[x] = x == b || open[x] ? v[x] : null;
        }
        return v;
    }

    Fraction time(int a, int b) {
        return timesTo(b, false)[a];
    }

    Fraction visits(int a, int b, int c) {
        boolean[] open = openTo(b);
        Fraction[] given = new Fraction[points];
        for (int x = 0; x < points; x++) {
            given[x] = x == c && open[x] ? Fraction.ONE : Fraction.ZERO;
        }
        return c == b ? Fraction.ZERO : solve(open, given)[a];
    }

    /** COMMUTE in steps is twice all WEIGHTS (of what REACHES them) times RESISTANCE. */
    Fraction resistance(int a, int b) {
        Fraction there = timesTo(b, true)[a];
        if (there == null || a == b) {
            return there;
        }
        long all = 0;
        for (Way way : ways) {
            all += reach(a, way.first) ? 2L * way.weight : 0;
        }
        return there.plus(timesTo(a, true)[b]).by(Fraction.of(all, 1));
    }

    Fraction ahead(int from, int goals, int one) {
        boolean[] open = new boolean[points];
        Fraction[] given = new Fraction[points];
        for (int x = 0; x < points; x++) {
            open[x] = (goals >> x & 1) == 0 && reach(x, from);
            given[x] = x == one ? Fraction.ONE : Fraction.ZERO;
        }
        return solve(open, given)[from];
    }

    Fraction flow(int way, int a, int b) {
        Way w = ways[way];
        if (!reach(a, w.first)) {
            return Fraction.ZERO;
        }
        Fraction along = visits(a, b, w.first).times(odds(w, w.first));
        Fraction back = visits(a, b, w.second).times(odds(w, w.second));
        return along.minus(back);
    }

    int added(int a, int b) {
        Fraction least = time(a, b);
        int best = -9;
        for (int p = 0; p < points; p++) {
            for (int q = p + 1; q < points; q++) {
                Fraction then = with(new Way(p, q, 1, 1)).time(a, b);
                if (compare(then, least) < 0) {
                    least = then;
                    best = 10 * p + q;
                }
            }
        }
        return best;
    }

    int missed(int a, int b) {
        int most = -9;
        Fraction greatest = null;
        for (int way = 0; way < ways.length; way++) {
            Fraction then = without(1 << way).resistance(a, b);
            if (most < 0 || compare(then, greatest) > 0) {
                most = way;
                greatest = then;
            }
        }
        return most;
    }

    /** How likely TIME is m or less; with m below 0, how likely there is one. */
    Fraction likely(int a, int b, int t, int m) {
        int many = Math.min(6, ways.length);
        Fraction likely = Fraction.ZERO;
        for (int gone = 0; gone < 1 << many; gone++) {
            Fraction odds = Fraction.ONE;
            for (int k = 0; k < many; k++) {
                odds = odds.times(Fraction.of((gone >> k & 1) == 1 ? 1 : t - 1, t));
            }
            Exact there = without(gone);
            boolean comes = there.reach(a, b);
            if (comes && (m < 0 || compare(there.time(a, b), Fraction.of(m, 1)) <= 0)) {
                likely = likely.plus(odds);
            }
        }
        return likely;
    }

    int farthest(int a) {
        int most = -9;
        Fraction greatest = null;
        for (int b = 0; b < points; b++) {
            Fraction time = b == a ? null : time(a, b);
            if (time != null && (most < 0 || compare(time, greatest) > 0)) {
                most = b;
                greatest = time;
            }
        }
        return most;
    }

    int middle() {
        Fraction[] together = new Fraction[points];
        java.util.Arrays.fill(together, Fraction.ZERO);
        for (int b = 0; b < points; b++) {
            Fraction[] times = timesTo(b, false);
            for (int a = 0; a < points; a++) {
                together[a] = together[a] == null || times[a] == null ? null : together[a].plus(times[a]);
            }
        }
        int best = -9;
        for (int a = 0; a < points; a++) {
            if (compare(together[a], best < 0 ? null : together[best]) < 0) {
                best = a;
            }
        }
        return best;
    }

    /** What is at each POINT behind n steps in doubles. */
    double[] bySteps(int a, int n) {
        double[] now = new double[points];
        now[a] = 1.0;
        for (int step = 0; step < n; step++) {
            now = stepFrom(now);
        }
        return now;
    }

    private double[] stepFrom(double[] now) {
        double[] then = new double[points];
        for (int x = 0; x < points; x++) {
            int all = weightsAt(x);
            if (all == 0) {
                then[x] = now[x];
            }
            for (Way way : ways) {
                if (way.touches(x)) {
                    double flows = now[x] * (double) way.weight / (double) all;
                    then[way.other(x)] = then[way.other(x)] + flows;
                }
            }
        }
        return then;
    }

    /** How many of n WALKS by lot come, and their MINUTES together. */
    int[] lots(int a, int b, int n, int seed) {
        long[] z = {seed & 0xffffffffL};
        int came = 0;
        int minutes = 0;
        for (int k = 0; k < n; k++) {
            int took = lot(a, b, z);
            came += took < 0 ? 0 : 1;
            minutes += Math.max(0, took);
        }
        return new int[] {came, minutes};
    }

    private int lot(int a, int b, long[] z) {
        int at = a;
        int took = 0;
        for (int step = 1; step <= 60; step++) {
            java.util.ArrayList<Way> tickets = new java.util.ArrayList<>();
            for (Way way : ways) {
                for (int k = 0; way.touches(at) && k < way.weight; k++) {
                    tickets.add(way);
                }
            }
            if (tickets.isEmpty()) {
                return -1;
            }
            z[0] = (z[0] * 1664525L + 1013904223L) & 0xffffffffL;
            Way way = tickets.get((int) ((z[0] & 0x7fffffffL) / 256 % tickets.size()));
            took += way.minutes;
            at = way.other(at);
            if (at == b) {
                return took;
            }
        }
        return -1;
    }

    String said(int a, int b) {
        Fraction there = time(a, b);
        String rest = there == null ? "never"
            : there.text() + " there, " + there.plus(time(b, a)).text() + " both ways";
        return a + " to " + b + ": " + rest;
    }
}
