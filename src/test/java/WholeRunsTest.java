import java.lang.reflect.InvocationTargetException;
import java.lang.reflect.Method;
import java.util.Arrays;
import java.util.Random;
import java.util.TreeMap;

/**
 * Promises 1 to 43 in runs of 512 calls by chance (always the same ones), the whole life of an object:
 * each call's answer against that of SecondReading, on which the same calls are made. How many runs
 * may be told as the argument, and from which seed on.
 */
public final class WholeRunsTest {
    private static final int CALLS = 512;
    /**
     * Each call, a sign for each of its arguments: P a POINT, W a WAY, w a WAY or -1, K a KIND, F 0 .. 9,
     * V 1 .. 9, T 0 or 1, 8 0 .. 7, G sets of POINTS, L a LIST or SLOT, others as fitting() tells.
     */
    private static final String[] FACE = {"letter c", "tells", "points n", "way PPVV", "kind WKF", "load WV",
        "length WV", "lose W", "of W8", "reaches P", "time PPT", "steps PPT", "commute PPT", "visits PPPT",
        "resistance PPT", "ahead PGPT", "flow WPPT", "added PP", "missed PP", "bridges PP", "farthest P", "middle",
        "sure PPtT", "fast PPtmT", "bySteps PPsT", "lots PPszT", "says PPi", "whatIs WT", "row r", "clear",
        "list LN", "put LNl", "look LN", "lays LPN", "judge LP", "slot LKF", "slots LFw", "slotted LFV", "like LL",
        "image", "on", "count C"};
    private static final int[] ODD = {Integer.MIN_VALUE, Integer.MIN_VALUE + 1, -1000, -17, -9, -2, -1, 0, 1, 2, 6, 7,
        8, 9, 10, 11, 12, 16, 20, 21, 30, 31, 32, 63, 64, 99, 100, 255, 256, 999, 1000, Integer.MAX_VALUE};
    private static final String[] WORDS = {"way PPVV", "kind WKF", "load WV", "long WV", "lose W", "points n"};

    private static final TreeMap<String, Method> ON_CLASS = new TreeMap<>();
    private static final TreeMap<String, Method> ON_READING = new TreeMap<>();
    private static final TreeMap<String, int[]> ASKED = new TreeMap<>();

    private final int seed;
    private final Random chance;
    private final WalkTimes x = new WalkTimes();
    private final SecondReading due = new SecondReading();
    private int made = 0;

    private WholeRunsTest(int seed) {
        this.seed = seed;
        this.chance = new Random(seed);
    }

    public static void main(String[] args) throws ReflectiveOperationException {
        int runs = args.length > 0 ? Integer.parseInt(args[0]) : 300;
        int first = args.length > 1 ? Integer.parseInt(args[1]) : 0;
        for (Method method : WalkTimes.class.getDeclaredMethods()) {
            ON_CLASS.put(method.getName(), method);
        }
        for (Method method : SecondReading.class.getDeclaredMethods()) {
            ON_READING.put(method.getName() + method.getParameterCount(), method);
        }
        for (int run = 0; run < runs; run++) {
            new WholeRunsTest(first + run).play();
        }
        // Of each call some are refused and many are not, or the runs would ask for little.
        for (String call : FACE) {
            int[] asked = ASKED.getOrDefault(nameOf(call), new int[2]);
            Due.is(call + " answered often", 2 * asked[0] >= runs ? 1 : 0, 1);
            Due.is(call + " refused sometimes", call.indexOf(' ') < 0 || asked[1] > 0 ? 1 : 0, 1);
        }
        Due.end("WholeRunsTest");
    }

    private static String nameOf(String call) {
        return call.split(" ")[0];
    }

    private void play() throws ReflectiveOperationException {
        call("points", 4 + seed % 3);
        int first = seed % 11;
        for (int k = 0; k < first; k++) {
            some("way PPVV");
            some("kind WKF");
        }
        while (made < CALLS) {
            switch (chance.nextInt(30)) {
                case 0: tellSome(); break;
                case 1: judgeSome(); break;
                case 2: rowOfSome(); break;
                case 3: slotSome(); break;
                case 4: some("on"); break;
                case 5: case 6: case 7: some("way PPVV"); break;
                case 8: case 9: some("kind WKF"); break;
                default: someOfAll(); break;
            }
        }
    }

    /** What leaves little to walk on comes seldom. */
    private void someOfAll() throws ReflectiveOperationException {
        String one = FACE[chance.nextInt(FACE.length)];
        boolean seldom = one.startsWith("lose") || one.startsWith("points") || one.startsWith("fast")
            || one.equals("clear");
        if (!seldom || chance.nextInt(3) == 0) {
            some(one);
        }
    }

    private void some(String one) throws ReflectiveOperationException {
        String signs = one.indexOf(' ') < 0 ? "" : one.substring(one.indexOf(' ') + 1);
        long[] v = new long[signs.length()];
        for (int k = 0; k < v.length; k++) {
            v[k] = somesuch(signs.charAt(k));
        }
        call(nameOf(one), v);
    }

    private long somesuch(char sign) {
        if (sign == 'z') {
            return chance.nextInt();
        }
        if (sign == 'l') {
            return chance.nextBoolean() ? chance.nextLong() : chance.nextInt(100);
        }
        return chance.nextInt(40) == 0 ? ODD[chance.nextInt(ODD.length)] : fitting(sign);
    }

    private int fitting(char sign) {
        switch (sign) {
            case 'P': return below(due.count(0));
            case 'W': return below(due.count(1));
            case 'w': return below(due.count(1) + 1) - 1;
            case 'K': return below(6);
            case 'F': return below(chance.nextBoolean() ? 10 : 4);
            case 'V': return 1 + below(9);
            case 'T': return below(2);
            case '8': return below(8);
            case 'G': return below(1 << due.count(0));
            case 'L': return below(3);
            case 'N': return below(chance.nextBoolean() ? 21 : 4);
            case 'c': return "way 0 1 2 3;lose".charAt(below(16));
            case 'n': return 2 + below(5);
            case 't': return 2 + below(19);
            case 'm': return below(chance.nextBoolean() ? 1000 : 60);
            case 's': return 1 + below(30);
            case 'i': return below(40) - 1;
            case 'r': return below(chance.nextBoolean() ? 5 : 100);
            default: return below(18);
        }
    }

    private int below(int n) {
        return n <= 0 ? 0 : chance.nextInt(n);
    }

    private void tellSome() throws ReflectiveOperationException {
        StringBuilder text = new StringBuilder();
        for (int k = chance.nextInt(4); k >= 0; k--) {
            String word = WORDS[below(3) == 0 ? below(6) : 0];
            text.append(nameOf(word));
            for (char sign : word.substring(word.indexOf(' ') + 1).toCharArray()) {
                text.append(' ').append(below(30) == 0 ? below(10) : fitting(sign));
            }
            text.append(';');
        }
        if (below(4) == 0) {
            text.setCharAt(below(text.length()), (char) below(128));
        }
        if (due.count(2) > 0) {
            call("tells");
        }
        for (int k = 0; k < text.length(); k++) {
            call("letter", text.charAt(k));
        }
        call("tells");
    }

    private void judgeSome() throws ReflectiveOperationException {
        int list = below(3);
        int b = fitting('P');
        call("list", list, below(3) == 0 ? below(12) : 12 + below(9));
        call("lays", list, b, 0);
        if (below(2) == 0) {
            call("put", list, below(12), below(4));
        }
        call("judge", list, b);
        call("judge", list, fitting('P'));
    }

    /** The ROW tells a WAY's WEIGHTS, as one of a KIND and FIGURE by chance has them. */
    private void rowOfSome() throws ReflectiveOperationException {
        SecondReading.Way like = new SecondReading.Way(0, 1, below(6), below(10), 1, 1);
        call("clear");
        for (int load = 1 + below(10); load > 0; load--) {
            call("row", like.weightWere(due.count(3) + 1));
        }
        int way = fitting('W');
        call("whatIs", way, 0);
        call("whatIs", way, 1);
        call("kind", way, like.kind(), like.figure());
        call("whatIs", way, 0);
        call("whatIs", way, 1);
    }

    private void slotSome() throws ReflectiveOperationException {
        call("slot", below(3), below(2) == 0 ? 0 : below(6), below(10));
        for (int k = 0; k < 4; k++) {
            some("slots LFw");
            some("slotted LFV");
        }
    }

    private void call(String name, long... v) throws ReflectiveOperationException {
        if (made >= CALLS) {
            return;
        }
        made++;
        Method method = ON_CLASS.get(name);
        long want = answer(ON_READING.get(name + v.length), due, v);
        Due.is("run " + seed + ", call " + made + ": " + name + Arrays.toString(v), answer(method, x, v), want);
        int[] asked = ASKED.computeIfAbsent(name, any -> new int[2]);
        boolean ofLongs = method.getReturnType() == long.class;
        boolean refused = ofLongs ? want > 4000000000000000000L && want <= 4000000000000000016L : want < 0;
        asked[refused ? 1 : 0]++;
    }

    private static long answer(Method method, Object on, long... v) throws ReflectiveOperationException {
        Object[] arguments = new Object[v.length];
        for (int k = 0; k < v.length; k++) {
            boolean isLong = method.getParameterTypes()[k] == long.class;
            arguments[k] = isLong ? (Object) v[k] : (Object) (int) v[k];
        }
        try {
            return ((Number) method.invoke(on, arguments)).longValue();
        } catch (InvocationTargetException thrown) {
            throw new AssertionError(method + " of " + Arrays.toString(v) + " threw", thrown.getCause());
        }
    }
}
