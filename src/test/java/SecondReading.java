import java.util.ArrayList;
import java.util.Arrays;
import java.util.List;
import java.util.function.LongSupplier;
import java.util.regex.Matcher;
import java.util.regex.Pattern;

/**
 * The document read a second time, sentence by sentence, without regard for room or speed: it has the
 * calls of the face and answers what is due, so that whole runs of calls can be laid beside it.
 */
final class SecondReading {
    private static final int[] UNDER = {-1, 0, 0, 2, 1, 0};
    private static final Pattern STATEMENT = Pattern.compile(
        "(?:(way)((?: [0-9]){4})|(kind)((?: [0-9]){3})|(load|long)((?: [0-9]){2})|(lose|points)( [0-9]));");
    private static final Pattern STATEMENTS = Pattern.compile("(?:" + STATEMENT.pattern() + ")+");

    /** A call is refused. */
    private static final class No extends RuntimeException {
        private static final long serialVersionUID = 1;
        final int number;

        No(int number) {
            super(null, null, false, false);
            this.number = number;
        }
    }

    record Way(int first, int second, int kind, int figure, int load, int length) {
        int weight() {
            return weightWere(load);
        }

        int weightWere(int v) {
            int half = v / 2 + v % 2;
            return new int[] {v, half, 2 * v, Math.max(1, 2 * v - figure), half + 1, v}[kind];
        }

        int minutes() {
            int half = length / 2 + length % 2;
            return new int[] {length, length, half, half, length + figure, length + figure}[kind];
        }

        boolean isUnder(int wanted) {
            return kind == wanted || UNDER[kind] >= 0 && as(UNDER[kind], figure).isUnder(wanted);
        }

        Way as(int otherKind, int otherFigure) {
            return new Way(first, second, otherKind, otherFigure, load, length);
        }
    }

    /** Places for WAYS (null: empty), and for which KIND they are made. */
    private record Slot(int madeFor, Way[] places) {
    }

    private int points = 4;
    private List<Way> ways = new ArrayList<>();
    private String letters = "";
    private List<Integer> told = new ArrayList<>();
    private final long[][] lists = new long[3][];
    private final Slot[] slots = new Slot[3];
    private int imagePoints = 0;
    private List<Way> imageWays = null;
    private final int[] refusals = new int[7];

    private int number(No no) {
        if (no.number >= -6) {
            refusals[-no.number]++;
        }
        return no.number;
    }

    private int ofInt(LongSupplier call) {
        try {
            return Math.toIntExact(call.getAsLong());
        } catch (No no) {
            return number(no);
        }
    }

    private long ofLong(LongSupplier call) {
        try {
            return call.getAsLong();
        } catch (No no) {
            return 4000000000000000000L - number(no);
        }
    }

    private static void need(boolean fine, int number) {
        if (!fine) {
            throw new No(number);
        }
    }

    private void needPoints(int... all) {
        for (int x : all) {
            need(0 <= x && x < points, -1);
        }
    }

    private void needWay(int way) {
        need(0 <= way && way < ways.size(), -1);
    }

    private static void needBetween(int least, int v, int most) {
        need(v >= least, -4);
        need(v <= most, -6);
    }

    private static void needPart(int part) {
        need(part == 0 || part == 1, -2);
    }

    private Exact exact() {
        return new Exact(points, ways.stream()
            .map(way -> new Exact.Way(way.first, way.second, way.weight(), way.minutes())).toArray(Exact.Way[]::new));
    }

    private boolean reach(int a, int b) {
        return exact().reach(a, b);
    }

    // ---- points, ways

    int letter(int c) {
        return ofInt(() -> {
            need(c >= 0, -4);
            need(c <= 255 && letters.length() < 120, -6);
            letters += (char) c;
            return letters.length();
        });
    }

    int tells() {
        String text = letters;
        letters = "";
        int fault = placeOfNoForm(text);
        if (fault >= 0) {
            return -1000 - fault;
        }
        SecondReading behind = new SecondReading();
        behind.points = points;
        behind.ways = new ArrayList<>(ways);
        int many = 0;
        for (Matcher one = STATEMENT.matcher(text); one.find(); many++) {
            if (behind.come(one.group()) < 0) {
                return -2000 - one.start();
            }
        }
        points = behind.points;
        ways = behind.ways;
        return many;
    }

    private static int placeOfNoForm(String text) {
        for (int n = 1; n <= text.length(); n++) {
            Matcher beginning = STATEMENTS.matcher(text.substring(0, n));
            if (!beginning.matches() && !beginning.hitEnd()) {
                return n - 1;
            }
        }
        return STATEMENTS.matcher(text).matches() ? -1 : text.length();
    }

    private int come(String statement) {
        String[] parts = statement.substring(0, statement.length() - 1).split(" ");
        int[] v = Arrays.stream(parts).skip(1).mapToInt(Integer::parseInt).toArray();
        switch (parts[0]) {
            case "way": return way(v[0], v[1], v[2], v[3]);
            case "kind": return kind(v[0], v[1], v[2]);
            case "load": return load(v[0], v[1]);
            case "long": return length(v[0], v[1]);
            case "lose": return lose(v[0]);
            default: return points(v[0]);
        }
    }

    int points(int n) {
        return ofInt(() -> {
            needBetween(2, n, 6);
            int was = points;
            points = n;
            ways.removeIf(way -> Math.max(way.first, way.second) >= n);
            return was;
        });
    }

    int way(int a, int b, int load, int length) {
        return ofInt(() -> {
            needPoints(a, b);
            need(a != b, -1);
            need(Math.min(load, length) >= 1, -4);
            need(Math.max(load, length) <= 9 && ways.size() < 10, -6);
            ways.add(new Way(a, b, 0, 0, load, length));
            return ways.size() - 1;
        });
    }

    int kind(int way, int kind, int figure) {
        return ofInt(() -> {
            needWay(way);
            need(0 <= kind && kind <= 5, -2);
            needBetween(0, figure, 9);
            Way was = ways.set(way, ways.get(way).as(kind, figure));
            return 10 * was.kind + was.figure;
        });
    }

    int load(int way, int v) {
        return ofInt(() -> {
            needWay(way);
            needBetween(1, v, 9);
            Way was = ways.get(way);
            ways.set(way, new Way(was.first, was.second, was.kind, was.figure, v, was.length));
            return was.load;
        });
    }

    int length(int way, int v) {
        return ofInt(() -> {
            needWay(way);
            needBetween(1, v, 9);
            Way was = ways.get(way);
            ways.set(way, new Way(was.first, was.second, was.kind, was.figure, was.load, v));
            return was.length;
        });
    }

    int lose(int way) {
        return ofInt(() -> {
            needWay(way);
            ways.remove(way);
            return ways.size();
        });
    }

    int of(int way, int what) {
        return ofInt(() -> {
            needWay(way);
            need(0 <= what && what <= 7, -2);
            Way w = ways.get(way);
            return new int[] {w.first, w.second, w.kind, w.figure, w.load, w.length, w.weight(), w.minutes()}[what];
        });
    }

    int reaches(int a) {
        return ofInt(() -> {
            needPoints(a);
            return reached(a);
        });
    }

    private int reached(int a) {
        int bits = 0;
        for (int b = 0; b < points; b++) {
            bits += reach(a, b) ? 1 << b : 0;
        }
        return bits;
    }

    // ---- times, odds

    private void needJourney(int a, int b, int part) {
        needPoints(a, b);
        needPart(part);
        need(reach(a, b), -3);
    }

    long time(int a, int b, int part) {
        return ofLong(() -> {
            needJourney(a, b, part);
            return exact().time(a, b).part(part);
        });
    }

    long steps(int a, int b, int part) {
        return ofLong(() -> {
            needJourney(a, b, part);
            return exact().timesTo(b, true)[a].part(part);
        });
    }

    long commute(int a, int b, int part) {
        return ofLong(() -> {
            needJourney(a, b, part);
            return exact().time(a, b).plus(exact().time(b, a)).part(part);
        });
    }

    long visits(int a, int b, int c, int part) {
        return ofLong(() -> {
            needPoints(a, b, c);
            need(c != b, -1);
            needJourney(a, b, part);
            return exact().visits(a, b, c).part(part);
        });
    }

    long resistance(int a, int b, int part) {
        return ofLong(() -> {
            needJourney(a, b, part);
            return exact().resistance(a, b).part(part);
        });
    }

    long ahead(int x, int goals, int one, int part) {
        return ofLong(() -> {
            needPoints(x, one);
            needBetween(0, goals, (1 << points) - 1);
            needPart(part);
            need((goals & 1 << one) != 0, -3);
            need((goals & reached(x)) != 0, -3);
            return exact().ahead(x, goals, one).part(part);
        });
    }

    long flow(int way, int a, int b, int part) {
        return ofLong(() -> {
            needWay(way);
            need(a != b, -1);
            needJourney(a, b, part);
            return exact().flow(way, a, b).part(part);
        });
    }

    // ---- what is best, what is missed

    private void needTwo(int a, int b) {
        needPoints(a, b);
        need(a != b, -1);
    }

    int added(int a, int b) {
        return ofInt(() -> {
            needTwo(a, b);
            return exact().added(a, b);
        });
    }

    int missed(int a, int b) {
        return ofInt(() -> {
            needTwo(a, b);
            return exact().missed(a, b);
        });
    }

    int bridges(int a, int b) {
        return ofInt(() -> {
            needTwo(a, b);
            need(reach(a, b), -3);
            int bits = 0;
            for (int way = 0; way < ways.size(); way++) {
                bits += exact().without(1 << way).reach(a, b) ? 0 : 1 << way;
            }
            return bits;
        });
    }

    int farthest(int a) {
        return ofInt(() -> {
            needPoints(a);
            return exact().farthest(a);
        });
    }

    int middle() {
        return exact().middle();
    }

    long sure(int a, int b, int t, int part) {
        return ofLong(() -> {
            needPoints(a, b);
            needBetween(2, t, 20);
            needPart(part);
            return exact().likely(a, b, t, -1).part(part);
        });
    }

    long fast(int a, int b, int t, int m, int part) {
        return ofLong(() -> {
            needPoints(a, b);
            need(t >= 2 && m >= 0, -4);
            need(t <= 20 && m <= 999, -6);
            needPart(part);
            return exact().likely(a, b, t, m).part(part);
        });
    }

    // ---- steps in doubles, lots, what is said

    long bySteps(int a, int b, int n, int what) {
        return ofLong(() -> {
            needPoints(a, b);
            needBetween(0, n, 30);
            needPart(what);
            double has = exact().bySteps(a, n)[b];
            return what == 0 ? Double.doubleToRawLongBits(has) : (int) (has * 1000000.0);
        });
    }

    int lots(int a, int b, int n, int z, int what) {
        return ofInt(() -> {
            needTwo(a, b);
            needBetween(1, n, 30);
            needPart(what);
            return exact().lots(a, b, n, z)[what];
        });
    }

    int says(int a, int b, int i) {
        return ofInt(() -> {
            needPoints(a, b);
            String said = exact().said(a, b);
            need(-1 <= i && i < said.length(), -1);
            return i == -1 ? said.length() : said.charAt(i);
        });
    }

    // ---- told rows, lists, slots

    int whatIs(int way, int what) {
        return ofInt(() -> {
            needWay(way);
            needPart(what);
            Way w = ways.get(way);
            int bits = 0;
            for (int v = 0; v < (what == 0 ? 6 : 10); v++) {
                bits += isSo(what == 0 ? w.as(v, w.figure) : w.as(w.kind, v)) ? 1 << v : 0;
            }
            return bits;
        });
    }

    private boolean isSo(Way way) {
        List<Integer> weights = new ArrayList<>();
        for (int load = 1; load <= told.size(); load++) {
            weights.add(way.weightWere(load));
        }
        return weights.equals(told);
    }

    int row(int v) {
        return ofInt(() -> {
            need(v >= 0, -4);
            need(v <= 99 && told.size() < 10, -6);
            told.add(v);
            return told.size();
        });
    }

    int clear() {
        int had = told.size();
        told = new ArrayList<>();
        return had;
    }

    private static void needList(int list) {
        need(0 <= list && list <= 2, -1);
    }

    int list(int list, int n) {
        return ofInt(() -> {
            needList(list);
            need(n <= 20, -6);
            need(n >= 0, -14);
            lists[list] = new long[n];
            return 1;
        });
    }

    private void needPlace(int list, int i) {
        needList(list);
        need(lists[list] != null, -11);
        need(0 <= i && i < lists[list].length, -13);
    }

    int put(int list, int i, long v) {
        return ofInt(() -> {
            needPlace(list, i);
            lists[list][i] = v;
            return 1;
        });
    }

    long look(int list, int i) {
        return ofLong(() -> {
            needPlace(list, i);
            return lists[list][i];
        });
    }

    private long[] timesTo(int b) {
        long[] numbers = new long[2 * points];
        Exact.Fraction[] times = exact().timesTo(b, false);
        for (int a = 0; a < points; a++) {
            numbers[2 * a] = times[a] == null ? 1 : times[a].part(0);
            numbers[2 * a + 1] = times[a] == null ? 0 : times[a].part(1);
        }
        return numbers;
    }

    int lays(int list, int b, int i) {
        return ofInt(() -> {
            needList(list);
            needPoints(b);
            need(lists[list] != null, -11);
            long place = i;
            for (long v : timesTo(b)) {
                need(0 <= place && place < lists[list].length, -13);
                lists[list][(int) place++] = v;
            }
            return points;
        });
    }

    int judge(int list, int b) {
        return ofInt(() -> {
            needList(list);
            needPoints(b);
            need(lists[list] != null, -11);
            long[] due = timesTo(b);
            int otherwise = Arrays.mismatch(due, lists[list]);
            boolean asDue = otherwise < 0 || otherwise == due.length;
            return asDue ? -9 : otherwise == lists[list].length ? 100 + otherwise / 2 : otherwise / 2;
        });
    }

    private static void needSlot(int slot) {
        need(0 <= slot && slot <= 2, -1);
    }

    int slot(int slot, int kind, int n) {
        return ofInt(() -> {
            needSlot(slot);
            need(0 <= kind && kind <= 5, -2);
            need(n <= 9, -6);
            need(n >= 0, -14);
            slots[slot] = new Slot(kind, new Way[n]);
            return 1;
        });
    }

    private Slot slotWith(int slot, int i) {
        need(slots[slot] != null, -11);
        need(0 <= i && i < slots[slot].places.length, -13);
        return slots[slot];
    }

    int slots(int slot, int i, int way) {
        return ofInt(() -> {
            needSlot(slot);
            need(-1 <= way && way < ways.size(), -1);
            Slot into = slotWith(slot, i);
            need(way == -1 || ways.get(way).isUnder(into.madeFor), -16);
            into.places[i] = way == -1 ? null : ways.get(way);
            return 1;
        });
    }

    int slotted(int slot, int i, int v) {
        return ofInt(() -> {
            needSlot(slot);
            needBetween(1, v, 9);
            Way lies = slotWith(slot, i).places[i];
            return lies == null ? -9 : lies.weightWere(v);
        });
    }

    int like(int slot, int other) {
        return ofInt(() -> {
            needSlot(slot);
            needSlot(other);
            need(slots[other] != null, -11);
            slots[slot] = new Slot(slots[other].madeFor, slots[other].places.clone());
            return slots[slot].places.length;
        });
    }

    // ---- the image, what is told

    int image() {
        imagePoints = points;
        imageWays = List.copyOf(ways);
        return ways.size();
    }

    int on() {
        return ofInt(() -> {
            need(imageWays != null, -3);
            points = imagePoints;
            ways = new ArrayList<>(imageWays);
            return ways.size();
        });
    }

    int count(int what) {
        switch (what) {
            case 0: return points;
            case 1: return ways.size();
            case 2: return letters.length();
            case 3: return told.size();
            case 4: return ways.stream().mapToInt(Way::weight).sum();
            case 5: return (int) java.util.stream.IntStream.range(0, points).map(this::reached).distinct().count();
            default: return what >= 11 && what <= 16 ? refusals[what - 10] : -9;
        }
    }
}
