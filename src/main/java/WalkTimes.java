/**
 * Walk times: POINTS joined by weighted WAYS of KINDS, and what is to be known of walks along them.
 * Words in capitals are those of the document. All rows are made with the object and used again by
 * every call, since all calls of a run share one room.
 */
public final class WalkTimes {
    private static final int MOST_POINTS = 6;
    private static final int MOST_WAYS = 10;
    private static final int MOST_FIGURE = 9;
    private static final int MOST_LOAD = 9;
    private static final int MOST_LENGTH = 9;
    private static final int MOST_LETTERS = 120;
    private static final int MOST_IN_ROW = 10;
    private static final int MOST_TOLD = 99;
    private static final int LISTS = 3;
    private static final int MOST_IN_LIST = 20;
    private static final int SLOTS = 3;
    private static final int MOST_IN_SLOT = 9;
    private static final int MOST_UNSURE = 6;
    private static final int MOST_ODDS = 20;
    private static final int MOST_MINUTES = 999;
    private static final int MOST_STEPS = 30;
    private static final int MOST_WALKS = 30;
    private static final int MOST_STEPS_BY_LOT = 60;

    private static final int KINDS = 6;
    private static final int STILE = 1;
    private static final int ROAD = 2;
    private static final int TOLL = 3;
    private static final int GATE = 4;
    private static final int FORD = 5;
    /** The KIND that each KIND is under. */
    private static final int[] UNDER = {-1, 0, 0, ROAD, STILE, 0};

    private static final int FINE = 0;
    private static final int NOBODY = -1;
    private static final int OTHER = -2;
    private static final int STATE = -3;
    private static final int BELOW = -4;
    private static final int ROOM = -6;
    private static final int NOTHING = -9;
    private static final int MISSING = -11;
    private static final int NO_PLACE = -13;
    private static final int SIZE_BELOW = -14;
    private static final int NOT_MADE_FOR = -16;
    private static final long LONG_REFUSAL = 4000000000000000000L;

    private static final int FORM_FAULT = -1000;
    private static final int STATEMENT_FAULT = -2000;

    private final Net net = new Net();
    private final Net trial = new Net();
    private final Net imaged = new Net();
    private boolean hasImage = false;
    private final Equations equations = new Equations();
    private final long[] together = new long[MOST_POINTS];
    private final Telling telling = new Telling();
    private final Spread spread = new Spread();
    private final Lot lot = new Lot();
    private final Saying saying = new Saying();
    private final int[] rowNumbers = new int[MOST_IN_ROW];
    private int rowSize = 0;
    private final ListRows listRows = new ListRows();
    private final SlotRows slotRows = new SlotRows();
    private final int[] refusals = new int[-ROOM + 1];

    public WalkTimes() {
    }

    // ---- points, ways

    public int letter(int c) {
        return counted(telling.take(c));
    }

    public int tells() {
        trial.copy(net);
        int answer = telling.tellOnto(trial);
        if (answer > 0) {
            net.copy(trial);
        }
        return answer;
    }

    public int points(int n) {
        return counted(net.changePoints(n));
    }

    public int way(int a, int b, int load, int length) {
        return counted(net.join(a, b, load, length));
    }

    public int kind(int way, int kind, int figure) {
        return counted(net.changeKind(way, kind, figure));
    }

    public int load(int way, int v) {
        return counted(net.changeLoad(way, v));
    }

    public int length(int way, int v) {
        return counted(net.changeLength(way, v));
    }

    public int lose(int way) {
        return counted(net.drop(way));
    }

    public int of(int way, int what) {
        if (!net.isWay(way)) {
            return counted(NOBODY);
        }
        switch (what) {
            case 0: return net.first[way];
            case 1: return net.second[way];
            case 2: return net.kinds[way];
            case 3: return net.figures[way];
            case 4: return net.loads[way];
            case 5: return net.lengths[way];
            case 6: return net.weight(way);
            case 7: return net.minutes(way);
            default: return counted(OTHER);
        }
    }

    public int reaches(int a) {
        return net.isPoint(a) ? net.reached(1 << a, net.allWays()) : counted(NOBODY);
    }

    // ---- times, odds

    public long time(int a, int b, int part) {
        int no = refusalOfJourney(a, b, part);
        if (no != FINE) {
            return refused(no);
        }
        equations.timesTo(net, net.allWays(), b);
        return leastTerms(equations.above[a], equations.below, part);
    }

    public long steps(int a, int b, int part) {
        int no = refusalOfJourney(a, b, part);
        if (no != FINE) {
            return refused(no);
        }
        equations.stepsTo(net, net.allWays(), b);
        return leastTerms(equations.above[a], equations.below, part);
    }

    public long commute(int a, int b, int part) {
        int no = refusalOfJourney(a, b, part);
        if (no != FINE) {
            return refused(no);
        }
        long above = commuteAbove(a, b);
        return leastTerms(above, equations.below, part);
    }

    public long visits(int a, int b, int c, int part) {
        int no = !net.isPoint(c) || c == b ? NOBODY : refusalOfJourney(a, b, part);
        if (no != FINE) {
            return refused(no);
        }
        equations.currentTo(net, net.allWays(), a, b);
        long above = net.weightsAt(c) * equations.above[c];
        return leastTerms(above, equations.below, part);
    }

    public long resistance(int a, int b, int part) {
        int no = refusalOfJourney(a, b, part);
        if (no != FINE) {
            return refused(no);
        }
        equations.currentTo(net, net.allWays(), a, b);
        return leastTerms(equations.above[a], equations.below, part);
    }

    public long ahead(int x, int goals, int one, int part) {
        int no = refusalOfGoals(x, goals, one, part);
        if (no != FINE) {
            return refused(no);
        }
        if (has(goals, x)) {
            return leastTerms(x == one ? 1L : 0L, 1L, part);
        }
        equations.aheadOf(net, net.allWays(), goals, one);
        return leastTerms(equations.above[x], equations.below, part);
    }

    public long flow(int way, int a, int b, int part) {
        int no = !net.isWay(way) || a == b ? NOBODY : refusalOfJourney(a, b, part);
        if (no != FINE) {
            return refused(no);
        }
        equations.currentTo(net, net.allWays(), a, b);
        long drop = equations.above[net.first[way]] - equations.above[net.second[way]];
        return leastTerms(net.weight(way) * drop, equations.below, part);
    }

    // ---- what is best, what is missed

    public int added(int a, int b) {
        if (!areTwoPoints(a, b)) {
            return counted(NOBODY);
        }
        boolean found = has(net.reached(1 << a, net.allWays()), b);
        equations.timesTo(net, net.allWays(), b);
        long above = equations.above[a];
        long below = equations.below;
        int best = NOTHING;
        trial.copy(net);
        int more = trial.more();
        for (int x = 0; x < net.points; x++) {
            for (int y = x + 1; y < net.points; y++) {
                trial.lay(more, x, y, 1, 1);
                if (!has(trial.reached(1 << a, trial.allWays()), b)) {
                    continue;
                }
                equations.timesTo(trial, trial.allWays(), b);
                if (!found || compare(equations.above[a], equations.below, above, below) < 0) {
                    found = true;
                    above = equations.above[a];
                    below = equations.below;
                    best = 10 * x + y;
                }
            }
        }
        return best;
    }

    public int missed(int a, int b) {
        if (!areTwoPoints(a, b)) {
            return counted(NOBODY);
        }
        int most = NOTHING;
        long above = 0;
        long below = 1;
        for (int way = 0; way < net.ways; way++) {
            int there = net.allWays() & ~(1 << way);
            if (!has(net.reached(1 << a, there), b)) {
                return way;
            }
            equations.currentTo(net, there, a, b);
            if (most < 0 || compare(equations.above[a], equations.below, above, below) > 0) {
                most = way;
                above = equations.above[a];
                below = equations.below;
            }
        }
        return most;
    }

    public int bridges(int a, int b) {
        if (!areTwoPoints(a, b)) {
            return counted(NOBODY);
        }
        if (!has(net.reached(1 << a, net.allWays()), b)) {
            return counted(STATE);
        }
        int bits = 0;
        for (int way = 0; way < net.ways; way++) {
            if (!has(net.reached(1 << a, net.allWays() & ~(1 << way)), b)) {
                bits |= 1 << way;
            }
        }
        return bits;
    }

    public int farthest(int a) {
        if (!net.isPoint(a)) {
            return counted(NOBODY);
        }
        int reach = net.reached(1 << a, net.allWays());
        int most = NOTHING;
        long above = 0;
        long below = 1;
        for (int b = 0; b < net.points; b++) {
            if (b == a || !has(reach, b)) {
                continue;
            }
            equations.timesTo(net, net.allWays(), b);
            if (most < 0 || compare(equations.above[a], equations.below, above, below) > 0) {
                most = b;
                above = equations.above[a];
                below = equations.below;
            }
        }
        return most;
    }

    public int middle() {
        if (net.reached(1, net.allWays()) != net.allPoints()) {
            return NOTHING;
        }
        for (int a = 0; a < net.points; a++) {
            together[a] = 0;
        }
        // All TIMES have the same below the line here (see Equations), so those above it may be added.
        for (int b = 0; b < net.points; b++) {
            equations.timesTo(net, net.allWays(), b);
            for (int a = 0; a < net.points; a++) {
                together[a] += equations.above[a];
            }
        }
        int least = 0;
        for (int a = 1; a < net.points; a++) {
            if (together[a] < together[least]) {
                least = a;
            }
        }
        return least;
    }

    public long sure(int a, int b, int t, int part) {
        int no = refusalOfUnsure(a, b, t, 0, part);
        return no != FINE ? refused(no) : likely(a, b, t, -1, part);
    }

    public long fast(int a, int b, int t, int m, int part) {
        int no = refusalOfUnsure(a, b, t, m, part);
        return no != FINE ? refused(no) : likely(a, b, t, m, part);
    }

    // ---- steps in doubles, lots, what is said

    public long bySteps(int a, int b, int n, int what) {
        int no = !net.isPoint(a) || !net.isPoint(b) ? NOBODY : refusalOfNumber(n, 0, MOST_STEPS);
        if (no == FINE && what != 0 && what != 1) {
            no = OTHER;
        }
        if (no != FINE) {
            return refused(no);
        }
        spread.walk(net, a, n);
        double v = spread.now[b];
        return what == 0 ? bitsOf(v) : (long) (int) (v * 1000000.0);
    }

    public int lots(int a, int b, int n, int z, int what) {
        int no = !areTwoPoints(a, b) ? NOBODY : refusalOfNumber(n, 1, MOST_WALKS);
        if (no == FINE && what != 0 && what != 1) {
            no = OTHER;
        }
        if (no != FINE) {
            return counted(no);
        }
        lot.begin(net, z);
        int came = 0;
        int minutes = 0;
        for (int walk = 0; walk < n; walk++) {
            int took = lot.walk(net, a, b);
            if (took >= 0) {
                came++;
                minutes += took;
            }
        }
        return what == 0 ? came : minutes;
    }

    public int says(int a, int b, int i) {
        if (!net.isPoint(a) || !net.isPoint(b)) {
            return counted(NOBODY);
        }
        say(a, b);
        if (i == -1) {
            return saying.size;
        }
        return i < 0 || i >= saying.size ? counted(NOBODY) : saying.letters[i];
    }

    // ---- told rows, lists, slots

    public int whatIs(int way, int what) {
        if (!net.isWay(way)) {
            return counted(NOBODY);
        }
        if (what != 0 && what != 1) {
            return counted(OTHER);
        }
        int bits = 0;
        int many = what == 0 ? KINDS : MOST_FIGURE + 1;
        for (int v = 0; v < many; v++) {
            int kind = what == 0 ? v : net.kinds[way];
            int figure = what == 0 ? net.figures[way] : v;
            if (rowTells(kind, figure)) {
                bits |= 1 << v;
            }
        }
        return bits;
    }

    public int row(int v) {
        int no = refusalOfNumber(v, 0, MOST_TOLD);
        if (no == FINE && rowSize >= MOST_IN_ROW) {
            no = ROOM;
        }
        if (no != FINE) {
            return counted(no);
        }
        rowNumbers[rowSize] = v;
        rowSize++;
        return rowSize;
    }

    public int clear() {
        int had = rowSize;
        rowSize = 0;
        return had;
    }

    public int list(int list, int n) {
        return counted(listRows.make(list, n));
    }

    public int put(int list, int i, long v) {
        int no = listRows.refusalOf(list, i);
        if (no != FINE) {
            return counted(no);
        }
        listRows.rows[list][i] = v;
        return 1;
    }

    public long look(int list, int i) {
        int no = listRows.refusalOf(list, i);
        return no != FINE ? refused(no) : listRows.rows[list][i];
    }

    public int lays(int list, int b, int i) {
        int no = net.isPoint(b) ? listRows.refusalOf(list) : NOBODY;
        if (no != FINE) {
            return counted(no);
        }
        int reach = net.reached(1 << b, net.allWays());
        equations.timesTo(net, net.allWays(), b);
        int place = i;
        for (int k = 0; k < 2 * net.points; k++) {
            if (!listRows.hasPlace(list, place)) {
                return NO_PLACE;
            }
            listRows.rows[list][place] = toldTime(reach, k);
            place++;
        }
        return net.points;
    }

    public int judge(int list, int b) {
        int no = net.isPoint(b) ? listRows.refusalOf(list) : NOBODY;
        if (no != FINE) {
            return counted(no);
        }
        int reach = net.reached(1 << b, net.allWays());
        equations.timesTo(net, net.allWays(), b);
        for (int k = 0; k < 2 * net.points; k++) {
            if (!listRows.hasPlace(list, k)) {
                return 100 + k / 2;
            }
            if (listRows.rows[list][k] != toldTime(reach, k)) {
                return k / 2;
            }
        }
        return NOTHING;
    }

    public int slot(int slot, int kind, int n) {
        return counted(slotRows.make(slot, kind, n));
    }

    public int slots(int slot, int i, int way) {
        if (way != -1 && !net.isWay(way)) {
            return counted(NOBODY);
        }
        int kind = way == -1 ? -1 : net.kinds[way];
        int figure = way == -1 ? 0 : net.figures[way];
        return counted(slotRows.lay(slot, i, kind, figure));
    }

    public int slotted(int slot, int i, int v) {
        return counted(slotRows.weightIn(slot, i, v));
    }

    public int like(int slot, int other) {
        return counted(slotRows.copy(slot, other));
    }

    // ---- the image, what is told

    public int image() {
        imaged.copy(net);
        hasImage = true;
        return net.ways;
    }

    public int on() {
        if (!hasImage) {
            return counted(STATE);
        }
        net.copy(imaged);
        return net.ways;
    }

    public int count(int what) {
        switch (what) {
            case 0: return net.points;
            case 1: return net.ways;
            case 2: return telling.size;
            case 3: return rowSize;
            case 4: return net.weightsOfAll();
            case 5: return net.sets();
            default: return what >= 11 && what <= 16 ? refusals[what - 10] : NOTHING;
        }
    }

    // ---- refusals

    /** An answer on its way out: if it is a REFUSAL that counts (-1 .. -6), it is counted. */
    private int counted(int answer) {
        if (answer < 0 && answer >= ROOM) {
            refusals[-answer]++;
        }
        return answer;
    }

    private long refused(int no) {
        return LONG_REFUSAL - counted(no);
    }

    private boolean areTwoPoints(int a, int b) {
        return net.isPoint(a) && net.isPoint(b) && a != b;
    }

    private int refusalOfJourney(int a, int b, int part) {
        if (!net.isPoint(a) || !net.isPoint(b)) {
            return NOBODY;
        }
        if (!isPart(part)) {
            return OTHER;
        }
        return has(net.reached(1 << a, net.allWays()), b) ? FINE : STATE;
    }

    private int refusalOfGoals(int x, int goals, int one, int part) {
        if (!net.isPoint(x) || !net.isPoint(one)) {
            return NOBODY;
        }
        int no = refusalOfNumber(goals, 0, net.allPoints());
        if (no != FINE) {
            return no;
        }
        if (!isPart(part)) {
            return OTHER;
        }
        return has(goals, one) && (net.reached(1 << x, net.allWays()) & goals) != 0 ? FINE : STATE;
    }

    private int refusalOfUnsure(int a, int b, int t, int m, int part) {
        if (!net.isPoint(a) || !net.isPoint(b)) {
            return NOBODY;
        }
        if (t < 2 || m < 0) {
            return BELOW;
        }
        if (t > MOST_ODDS || m > MOST_MINUTES) {
            return ROOM;
        }
        return isPart(part) ? FINE : OTHER;
    }

    private static int refusalOfNumber(int v, int least, int most) {
        if (v < least) {
            return BELOW;
        }
        return v > most ? ROOM : FINE;
    }

    private static boolean isPart(int part) {
        return part == 0 || part == 1;
    }

    // ---- parts of answers

    /** COMMUTE above the line; both TIMES have the same below it (see Equations). */
    private long commuteAbove(int a, int b) {
        equations.timesTo(net, net.allWays(), b);
        long there = equations.above[a];
        equations.timesTo(net, net.allWays(), a);
        return there + equations.above[b];
    }

    /** How likely a REACHES b, or, with m not below 0, how likely TIME is m or less. */
    private long likely(int a, int b, int t, int m, int part) {
        int unsure = Math.min(net.ways, MOST_UNSURE);
        long above = 0;
        for (int gone = 0; gone < 1 << unsure; gone++) {
            int there = net.allWays() & ~gone;
            if (comesWithin(a, b, m, there)) {
                above += power(t - 1, unsure - Integer.bitCount(gone));
            }
        }
        return leastTerms(above, power(t, unsure), part);
    }

    private boolean comesWithin(int a, int b, int m, int there) {
        if (!has(net.reached(1 << a, there), b)) {
            return false;
        }
        if (m < 0) {
            return true;
        }
        equations.timesTo(net, there, b);
        return equations.above[a] <= m * equations.below;
    }

    private void say(int a, int b) {
        saying.size = 0;
        saying.addNumber(a);
        saying.addText(" to ");
        saying.addNumber(b);
        saying.addText(": ");
        if (!has(net.reached(1 << a, net.allWays()), b)) {
            saying.addText("never");
            return;
        }
        equations.timesTo(net, net.allWays(), b);
        sayFraction(equations.above[a]);
        saying.addText(" there, ");
        long both = commuteAbove(a, b);
        sayFraction(both);
        saying.addText(" both ways");
    }

    private void sayFraction(long above) {
        long below = leastTerms(above, equations.below, 1);
        saying.addNumber(leastTerms(above, equations.below, 0));
        if (below != 1) {
            saying.addText("/");
            saying.addNumber(below);
        }
    }

    private boolean rowTells(int kind, int figure) {
        for (int k = 0; k < rowSize; k++) {
            if (rowNumbers[k] != weightOf(kind, figure, k + 1)) {
                return false;
            }
        }
        return true;
    }

    /** Number k of TOLD TIMES, once the equations hold them and reach is what REACHES the goal. */
    private long toldTime(int reach, int k) {
        int x = k / 2;
        int part = k % 2;
        if (!has(reach, x)) {
            return part == 0 ? 1L : 0L;
        }
        return leastTerms(equations.above[x], equations.below, part);
    }

    // ---- kinds

    private static int weightOf(int kind, int figure, int load) {
        switch (kind) {
            case STILE: return (load + 1) / 2;
            case ROAD: return 2 * load;
            case TOLL: return 2 * load > figure ? 2 * load - figure : 1;
            case GATE: return (load + 1) / 2 + 1;
            default: return load;
        }
    }

    private static int minutesOf(int kind, int figure, int length) {
        switch (kind) {
            case ROAD:
            case TOLL: return (length + 1) / 2;
            case GATE:
            case FORD: return length + figure;
            default: return length;
        }
    }

    private static boolean isKind(int kind) {
        return kind >= 0 && kind < KINDS;
    }

    private static boolean isOfKind(int kind, int wanted) {
        int k = kind;
        for (int level = 0; level < KINDS && isKind(k); level++) {
            if (k == wanted) {
                return true;
            }
            k = UNDER[k];
        }
        return false;
    }

    // ---- numbers

    private static boolean has(int bits, int n) {
        return (bits >> n & 1) == 1;
    }

    private static long over(long v, long divisor) {
        return divisor == 0 ? 0 : v / divisor;
    }

    private static long gcd(long a, long b) {
        long x = a;
        long y = b;
        for (int n = 0; n < 100 && y != 0; n++) {
            long rest = x % y;
            x = y;
            y = rest;
        }
        return x;
    }

    private static long leastTerms(long above, long below, int part) {
        return over(part == 0 ? above : below, gcd(Math.abs(above), below));
    }

    /** Whole parts first: a product crosswise of all would not always fit a long. */
    private static int compare(long above, long below, long otherAbove, long otherBelow) {
        long whole = over(above, below);
        long otherWhole = over(otherAbove, otherBelow);
        if (whole != otherWhole) {
            return Long.compare(whole, otherWhole);
        }
        long rest = above - whole * below;
        long otherRest = otherAbove - otherWhole * otherBelow;
        return Long.compare(rest * otherBelow, otherRest * below);
    }

    private static long power(long v, int n) {
        long product = 1;
        for (int k = 0; k < n; k++) {
            product *= v;
        }
        return product;
    }

    /** Bits of a double from 0.0 to below 2.0, put together here as no library function may do it. */
    private static long bitsOf(double v) {
        if (!(v > 0.0)) {
            return 0L;
        }
        double rest = v;
        int exponent = 1023;
        for (int n = 0; n < 1100 && rest < 1.0; n++) {
            rest = rest * 2.0;
            exponent--;
        }
        return ((long) exponent << 52) + (long) ((rest - 1.0) * 4503599627370496.0);
    }

    /** POINTS and WAYS. Its changes answer as the calls of the face do, but count nothing. */
    private static final class Net {
        int points = 4;
        int ways = 0;
        // Room for one WAY more than may be there: the one that ADDED tries.
        final int[] first = new int[MOST_WAYS + 1];
        final int[] second = new int[MOST_WAYS + 1];
        final int[] kinds = new int[MOST_WAYS + 1];
        final int[] figures = new int[MOST_WAYS + 1];
        final int[] loads = new int[MOST_WAYS + 1];
        final int[] lengths = new int[MOST_WAYS + 1];

        boolean isPoint(int x) {
            return x >= 0 && x < points;
        }

        boolean isWay(int way) {
            return way >= 0 && way < ways;
        }

        int allPoints() {
            return (1 << points) - 1;
        }

        int allWays() {
            return (1 << ways) - 1;
        }

        int weight(int way) {
            return weightOf(kinds[way], figures[way], loads[way]);
        }

        int minutes(int way) {
            return minutesOf(kinds[way], figures[way], lengths[way]);
        }

        boolean touches(int way, int x) {
            return first[way] == x || second[way] == x;
        }

        int otherEnd(int way, int x) {
            return first[way] == x ? second[way] : first[way];
        }

        int weightsAt(int x) {
            int sum = 0;
            for (int way = 0; way < ways; way++) {
                if (touches(way, x)) {
                    sum += weight(way);
                }
            }
            return sum;
        }

        /** For those who ask step by step: the WEIGHTS of each POINT together, into a row of theirs. */
        void layWeights(int[] row) {
            for (int x = 0; x < points && x < row.length; x++) {
                row[x] = weightsAt(x);
            }
        }

        int weightsOfAll() {
            int sum = 0;
            for (int way = 0; way < ways; way++) {
                sum += weight(way);
            }
            return sum;
        }

        /** POINTS (bits) that some of these POINTS (bits) REACH by the WAYS (bits) that are there. */
        int reached(int from, int there) {
            int seen = from;
            int before = 0;
            for (int round = 1; round < points && seen != before; round++) {
                before = seen;
                for (int way = 0; way < ways; way++) {
                    int ends = 1 << first[way] | 1 << second[way];
                    if (has(there, way) && (seen & ends) != 0) {
                        seen |= ends;
                    }
                }
            }
            return seen;
        }

        int sets() {
            int seen = 0;
            int many = 0;
            for (int x = 0; x < points; x++) {
                if (!has(seen, x)) {
                    seen |= reached(1 << x, allWays());
                    many++;
                }
            }
            return many;
        }

        void copy(Net other) {
            points = other.points;
            ways = other.ways;
            for (int way = 0; way < ways; way++) {
                copyWay(other, way, way);
            }
        }

        private void copyWay(Net from, int way, int place) {
            first[place] = from.first[way];
            second[place] = from.second[way];
            kinds[place] = from.kinds[way];
            figures[place] = from.figures[way];
            loads[place] = from.loads[way];
            lengths[place] = from.lengths[way];
        }

        void lay(int way, int a, int b, int load, int length) {
            first[way] = a;
            second[way] = b;
            kinds[way] = 0;
            figures[way] = 0;
            loads[way] = load;
            lengths[way] = length;
        }

        /** One WAY more, whatever it is: its number, in any case one that has a place. */
        int more() {
            if (ways <= MOST_WAYS) {
                ways++;
            }
            return ways - 1;
        }

        int changePoints(int n) {
            int no = refusalOfNumber(n, 2, MOST_POINTS);
            if (no != FINE) {
                return no;
            }
            int had = points;
            int kept = 0;
            for (int way = 0; way < ways; way++) {
                if (first[way] < n && second[way] < n) {
                    copyWay(this, way, kept);
                    kept++;
                }
            }
            points = n;
            ways = kept;
            return had;
        }

        int join(int a, int b, int load, int length) {
            if (!isPoint(a) || !isPoint(b) || a == b) {
                return NOBODY;
            }
            if (load < 1 || length < 1) {
                return BELOW;
            }
            if (load > MOST_LOAD || length > MOST_LENGTH || ways >= MOST_WAYS) {
                return ROOM;
            }
            int way = more();
            lay(way, a, b, load, length);
            return way;
        }

        int changeKind(int way, int kind, int figure) {
            if (!isWay(way)) {
                return NOBODY;
            }
            int no = isKind(kind) ? refusalOfNumber(figure, 0, MOST_FIGURE) : OTHER;
            if (no != FINE) {
                return no;
            }
            int had = 10 * kinds[way] + figures[way];
            kinds[way] = kind;
            figures[way] = figure;
            return had;
        }

        int changeLoad(int way, int v) {
            int no = isWay(way) ? refusalOfNumber(v, 1, MOST_LOAD) : NOBODY;
            if (no != FINE) {
                return no;
            }
            int had = loads[way];
            loads[way] = v;
            return had;
        }

        int changeLength(int way, int v) {
            int no = isWay(way) ? refusalOfNumber(v, 1, MOST_LENGTH) : NOBODY;
            if (no != FINE) {
                return no;
            }
            int had = lengths[way];
            lengths[way] = v;
            return had;
        }

        int drop(int way) {
            if (!isWay(way)) {
                return NOBODY;
            }
            for (int later = way + 1; later < ways; later++) {
                copyWay(this, later, later - 1);
            }
            ways--;
            return ways;
        }
    }

    /**
     * What holds at every POINT but some ends, where it is 0: the WEIGHTS there together times what
     * it is there, less each WAY's WEIGHT times what it is at its other end, is what is due there.
     *
     * <p>They are solved in whole numbers. What then stands below the line is the sum over all trees
     * that join the POINTS of the products of their WEIGHTS: it is the same whichever POINT of those
     * that REACH one another the end is, so that fractions of several ends may be added as they are.
     * Every product on the way fits a long: of 6 POINTS and 11 WAYS, each of WEIGHT to 18 and MINUTES
     * to 5 or of WEIGHT to 9 and MINUTES to 18, it is below 8.2 * 10 to the 18th by Hadamard's bound.
     */
    private static final class Equations {
        private static final int DUE = MOST_POINTS;
        final long[] above = new long[MOST_POINTS];
        long below = 1;
        private final long[][] rows = new long[MOST_POINTS][MOST_POINTS + 1];
        private final int[] rowOf = new int[MOST_POINTS];
        private final long[] due = new long[MOST_POINTS];
        private int size = 0;

        void timesTo(Net net, int there, int b) {
            nothingIsDue();
            for (int way = 0; way < net.ways; way++) {
                if (has(there, way)) {
                    long v = net.weight(way) * net.minutes(way);
                    due[net.first[way]] += v;
                    due[net.second[way]] += v;
                }
            }
            solve(net, there, 1 << b);
        }

        void stepsTo(Net net, int there, int b) {
            nothingIsDue();
            for (int way = 0; way < net.ways; way++) {
                if (has(there, way)) {
                    due[net.first[way]] += net.weight(way);
                    due[net.second[way]] += net.weight(way);
                }
            }
            solve(net, there, 1 << b);
        }

        /** How high each POINT stands over b, if 1 flows from a to b, each WAY being 1 by WEIGHT. */
        void currentTo(Net net, int there, int a, int b) {
            nothingIsDue();
            due[a] = 1;
            solve(net, there, 1 << b);
        }

        /** How likely one of the GOALS comes first from each POINT that is none of them. */
        void aheadOf(Net net, int there, int goals, int one) {
            nothingIsDue();
            for (int way = 0; way < net.ways; way++) {
                if (has(there, way) && net.touches(way, one)) {
                    due[net.otherEnd(way, one)] += net.weight(way);
                }
            }
            solve(net, there, goals);
        }

        private void nothingIsDue() {
            for (int x = 0; x < MOST_POINTS; x++) {
                due[x] = 0;
            }
        }

        private void solve(Net net, int there, int ends) {
            layRows(net.reached(ends, there) & ~ends);
            for (int way = 0; way < net.ways; way++) {
                if (has(there, way)) {
                    addWay(rowOf[net.first[way]], rowOf[net.second[way]], net.weight(way));
                }
            }
            below = 1;
            for (int k = 0; k < size; k++) {
                clearColumn(k, below);
                below = rows[k][k];
            }
            for (int x = 0; x < MOST_POINTS; x++) {
                above[x] = rowOf[x] < 0 ? 0 : rows[rowOf[x]][DUE];
            }
        }

        private void layRows(int open) {
            size = 0;
            for (int x = 0; x < MOST_POINTS; x++) {
                rowOf[x] = -1;
                if (has(open, x)) {
                    for (int column = 0; column < DUE; column++) {
                        rows[size][column] = 0;
                    }
                    rows[size][DUE] = due[x];
                    rowOf[x] = size;
                    size++;
                }
            }
        }

        private void addWay(int r, int s, int weight) {
            if (r >= 0) {
                rows[r][r] += weight;
            }
            if (s >= 0) {
                rows[s][s] += weight;
            }
            if (r >= 0 && s >= 0) {
                rows[r][s] -= weight;
                rows[s][r] -= weight;
            }
        }

        /** No row is ever to be changed for another: each part of these rows joins an end, so no pivot is 0. */
        private void clearColumn(int k, long before) {
            long pivot = rows[k][k];
            for (int r = 0; r < size; r++) {
                if (r == k) {
                    continue;
                }
                long factor = rows[r][k];
                for (int column = k + 1; column < size; column++) {
                    rows[r][column] = over(pivot * rows[r][column] - factor * rows[k][column], before);
                }
                rows[r][DUE] = over(pivot * rows[r][DUE] - factor * rows[k][DUE], before);
            }
        }
    }

    /** Letters that have come, and the STATEMENTS that they are. */
    private static final class Telling {
        private static final int WORDS = 6;
        int size = 0;
        private final int[] letters = new int[MOST_LETTERS];

        int take(int c) {
            int no = refusalOfNumber(c, 0, 255);
            if (no == FINE && size >= MOST_LETTERS) {
                no = ROOM;
            }
            if (no != FINE) {
                return no;
            }
            letters[size] = c;
            size++;
            return size;
        }

        /** How many STATEMENTS have changed the net, or the FAULT (the net may be changed in part then). */
        int tellOnto(Net onto) {
            int fault = faultOfForm();
            int answer = fault >= 0 ? FORM_FAULT - fault : changeAll(onto);
            size = 0;
            return answer;
        }

        private int faultOfForm() {
            int start = 0;
            for (int told = 0; told < MOST_LETTERS && (told == 0 || start < size); told++) {
                int word = wordAt(start);
                if (word < 0) {
                    return start + longestBeginning(start);
                }
                int fault = faultOfNumbers(start + textOf(word).length(), numbersOf(word));
                if (fault >= 0) {
                    return fault;
                }
                start = endOf(start, word);
            }
            return -1;
        }

        private int faultOfNumbers(int from, int many) {
            int place = from;
            for (int k = 0; k < many; k++) {
                if (letterAt(place) != ' ') {
                    return place;
                }
                int digit = letterAt(place + 1);
                if (digit < '0' || digit > '9') {
                    return place + 1;
                }
                place += 2;
            }
            return letterAt(place) == ';' ? -1 : place;
        }

        private int changeAll(Net onto) {
            int start = 0;
            int told = 0;
            while (start < size && told < MOST_LETTERS) {
                int word = wordAt(start);
                if (change(onto, word, start + textOf(word).length()) < 0) {
                    return STATEMENT_FAULT - start;
                }
                start = endOf(start, word);
                told++;
            }
            return told;
        }

        private int change(Net onto, int word, int from) {
            int a = digitAt(from + 1);
            int b = digitAt(from + 3);
            int c = digitAt(from + 5);
            int d = digitAt(from + 7);
            switch (word) {
                case 0: return onto.join(a, b, c, d);
                case 1: return onto.changeKind(a, b, c);
                case 2: return onto.changeLoad(a, b);
                case 3: return onto.changeLength(a, b);
                case 4: return onto.drop(a);
                default: return onto.changePoints(a);
            }
        }

        private int wordAt(int start) {
            for (int word = 0; word < WORDS; word++) {
                String text = textOf(word);
                if (beginning(text, start) == text.length()) {
                    return word;
                }
            }
            return -1;
        }

        private int longestBeginning(int start) {
            int longest = 0;
            for (int word = 0; word < WORDS; word++) {
                longest = Math.max(longest, beginning(textOf(word), start));
            }
            return longest;
        }

        /** With how many letters of the text the letters from a place on begin. */
        private int beginning(String text, int start) {
            int same = 0;
            while (same < text.length() && letterAt(start + same) == text.charAt(same)) {
                same++;
            }
            return same;
        }

        private int endOf(int start, int word) {
            return start + textOf(word).length() + 2 * numbersOf(word) + 1;
        }

        private int letterAt(int place) {
            return place >= 0 && place < size ? letters[place] : -1;
        }

        private int digitAt(int place) {
            return letterAt(place) - '0';
        }

        private static String textOf(int word) {
            switch (word) {
                case 0: return "way";
                case 1: return "kind";
                case 2: return "load";
                case 3: return "long";
                case 4: return "lose";
                default: return "points";
            }
        }

        private static int numbersOf(int word) {
            switch (word) {
                case 0: return 4;
                case 1: return 3;
                case 2:
                case 3: return 2;
                default: return 1;
            }
        }
    }

    /** BY STEPS: how much is at each POINT, in doubles. */
    private static final class Spread {
        double[] now = new double[MOST_POINTS];
        private double[] then = new double[MOST_POINTS];
        private final int[] weights = new int[MOST_POINTS];

        void walk(Net net, int a, int n) {
            net.layWeights(weights);
            for (int x = 0; x < MOST_POINTS; x++) {
                now[x] = x == a ? 1.0 : 0.0;
            }
            for (int step = 0; step < n; step++) {
                for (int x = 0; x < MOST_POINTS; x++) {
                    then[x] = 0.0;
                }
                for (int x = 0; x < net.points; x++) {
                    goOnFrom(net, x);
                }
                double[] old = now;
                now = then;
                then = old;
            }
        }

        private void goOnFrom(Net net, int x) {
            if (weights[x] <= 0) {
                then[x] += now[x];
                return;
            }
            for (int way = 0; way < net.ways; way++) {
                if (net.touches(way, x)) {
                    then[net.otherEnd(way, x)] += now[x] * (double) net.weight(way) / (double) weights[x];
                }
            }
        }
    }

    /** WALKS by LOT; the seed goes on from one to the next. */
    private static final class Lot {
        private int seed = 0;
        private final int[] weights = new int[MOST_POINTS];

        void begin(Net net, int z) {
            seed = z;
            net.layWeights(weights);
        }

        /** MINUTES till it comes to b, -1 if it doesn't. */
        int walk(Net net, int a, int b) {
            int at = a;
            int took = 0;
            for (int step = 0; step < MOST_STEPS_BY_LOT; step++) {
                if (weights[at] <= 0) {
                    return -1;
                }
                int way = wayBy(net, at, draw(weights[at]));
                took += net.minutes(way);
                at = net.otherEnd(way, at);
                if (at == b) {
                    return took;
                }
            }
            return -1;
        }

        private int draw(int m) {
            seed = seed * 1664525 + 1013904223;
            int v = (seed & 0x7fffffff) / 256;
            return m <= 0 ? 0 : v % m;
        }

        private static int wayBy(Net net, int x, int drawn) {
            int sum = 0;
            for (int way = 0; way < net.ways; way++) {
                if (net.touches(way, x)) {
                    sum += net.weight(way);
                    if (drawn < sum) {
                        return way;
                    }
                }
            }
            return 0;
        }
    }

    /** Letters of what is SAID; what would not fit is left out. */
    private static final class Saying {
        private static final int MOST = 120;
        int size = 0;
        final int[] letters = new int[MOST];

        void addText(String text) {
            for (int k = 0; k < text.length(); k++) {
                addLetter(text.charAt(k));
            }
        }

        void addNumber(long v) {
            long unit = 1;
            for (int k = 0; k < 17 && v / 10 >= unit; k++) {
                unit *= 10;
            }
            for (int k = 0; k < 18 && unit > 0; k++) {
                addLetter('0' + (int) (v / unit % 10));
                unit /= 10;
            }
        }

        private void addLetter(int c) {
            if (size < MOST) {
                letters[size] = c;
                size++;
            }
        }
    }

    /** LISTS: a missing one has a size below 0. */
    private static final class ListRows {
        final long[][] rows = new long[LISTS][MOST_IN_LIST];
        private final int[] sizes = {-1, -1, -1};

        int make(int list, int n) {
            if (list < 0 || list >= LISTS) {
                return NOBODY;
            }
            if (n > MOST_IN_LIST) {
                return ROOM;
            }
            if (n < 0) {
                return SIZE_BELOW;
            }
            for (int i = 0; i < n; i++) {
                rows[list][i] = 0;
            }
            sizes[list] = n;
            return 1;
        }

        int refusalOf(int list) {
            if (list < 0 || list >= LISTS) {
                return NOBODY;
            }
            return sizes[list] < 0 ? MISSING : FINE;
        }

        int refusalOf(int list, int i) {
            int no = refusalOf(list);
            if (no != FINE) {
                return no;
            }
            return hasPlace(list, i) ? FINE : NO_PLACE;
        }

        boolean hasPlace(int list, int i) {
            return i >= 0 && i < sizes[list];
        }
    }

    /** SLOTS: a missing one has a size below 0; an empty place has a KIND below 0. */
    private static final class SlotRows {
        private final int[] sizes = {-1, -1, -1};
        private final int[] madeFor = new int[SLOTS];
        // WEIGHT, were LOAD told, needs no more of a WAY than these two.
        private final int[][] kinds = new int[SLOTS][MOST_IN_SLOT];
        private final int[][] figures = new int[SLOTS][MOST_IN_SLOT];

        int make(int slot, int kind, int n) {
            if (!isSlot(slot)) {
                return NOBODY;
            }
            if (!isKind(kind)) {
                return OTHER;
            }
            if (n > MOST_IN_SLOT) {
                return ROOM;
            }
            if (n < 0) {
                return SIZE_BELOW;
            }
            for (int i = 0; i < n; i++) {
                kinds[slot][i] = -1;
            }
            madeFor[slot] = kind;
            sizes[slot] = n;
            return 1;
        }

        /** A KIND below 0 lays nothing. */
        int lay(int slot, int i, int kind, int figure) {
            int no = isSlot(slot) ? refusalOfPlace(slot, i) : NOBODY;
            if (no != FINE) {
                return no;
            }
            if (kind >= 0 && !isOfKind(kind, madeFor[slot])) {
                return NOT_MADE_FOR;
            }
            kinds[slot][i] = kind;
            figures[slot][i] = figure;
            return 1;
        }

        int weightIn(int slot, int i, int load) {
            int no = isSlot(slot) ? refusalOfNumber(load, 1, MOST_LOAD) : NOBODY;
            if (no == FINE) {
                no = refusalOfPlace(slot, i);
            }
            if (no != FINE) {
                return no;
            }
            return kinds[slot][i] < 0 ? NOTHING : weightOf(kinds[slot][i], figures[slot][i], load);
        }

        int copy(int slot, int other) {
            if (!isSlot(slot) || !isSlot(other)) {
                return NOBODY;
            }
            if (sizes[other] < 0) {
                return MISSING;
            }
            for (int i = 0; i < sizes[other]; i++) {
                kinds[slot][i] = kinds[other][i];
                figures[slot][i] = figures[other][i];
            }
            madeFor[slot] = madeFor[other];
            sizes[slot] = sizes[other];
            return sizes[slot];
        }

        private static boolean isSlot(int slot) {
            return slot >= 0 && slot < SLOTS;
        }

        private int refusalOfPlace(int slot, int i) {
            if (sizes[slot] < 0) {
                return MISSING;
            }
            return i >= 0 && i < sizes[slot] ? FINE : NO_PLACE;
        }
    }
}
