import java.io.IOException;
import java.lang.reflect.Method;
import java.nio.file.Files;
import java.nio.file.Path;
import java.util.ArrayList;
import java.util.TreeMap;
import java.util.TreeSet;
import java.util.regex.Matcher;
import java.util.regex.Pattern;

/**
 * README.md: its examples answer what it tells, every call of the face is told in a table and made in
 * an example, and the numbers of REFUSALS are those that calls answer.
 */
public final class ReadmeTest {
    private static final Pattern EXAMPLE = Pattern.compile("(?ms)^```java\\n(.*?)^```");
    private static final Pattern MADE = Pattern.compile("WalkTimes x = new WalkTimes\\(\\);\\s*(//.*)?");
    private static final Pattern CALLS = Pattern.compile("((?:x\\.\\w+\\([^)]*\\);\\s*)+)//(.*)");
    private static final Pattern CALL = Pattern.compile("x\\.(\\w+)\\(([^)]*)\\);");
    private static final Pattern TOLD = Pattern.compile("(?m)^\\| `(\\w+)\\(([^)]*)\\)` \\| [^|]+ \\| ([^|]*)\\|$");
    private static final Pattern REFUSAL = Pattern.compile(
        "(?m)^\\| (-\\d+) \\| (-\\d+) \\| (\\d*) ?\\| [^|]+ \\| ([^|]+) \\|$");
    private static final Pattern SAID = Pattern.compile("x\\.says\\((\\d), (\\d), -1\\);\\s*//[^\"]*\"([^\"]*)\"");

    private static final TreeMap<String, Method> FACE = new TreeMap<>();
    private static final TreeSet<String> MADE_IN_EXAMPLES = new TreeSet<>();

    public static void main(String[] args) throws IOException, ReflectiveOperationException {
        for (Method method : WalkTimes.class.getMethods()) {
            if (method.getDeclaringClass() == WalkTimes.class) {
                FACE.put(method.getName(), method);
            }
        }
        String readme = Files.readString(Path.of("README.md"));
        Matcher example = EXAMPLE.matcher(readme);
        int examples = 0;
        while (example.find()) {
            run(example.group(1).split("\n"));
            examples++;
        }
        Due.is("examples", examples > 6 ? 1 : 0, 1);
        Due.said("calls made in examples", MADE_IN_EXAMPLES.toString(), FACE.keySet().toString());
        tables(readme);
        refusals(readme);
        testsAreTold(readme);
        Due.end("ReadmeTest");
    }

    private static void run(String[] lines) throws ReflectiveOperationException {
        WalkTimes x = null;
        for (String line : lines) {
            Matcher calls = CALLS.matcher(line);
            if (MADE.matcher(line).matches()) {
                x = new WalkTimes();
                Due.is("POINTS of a new object", x.count(0), 4);
                Due.is("WAYS of a new object", x.count(1), 0);
            } else if (x != null && calls.matches()) {
                make(x, line, calls.group(1), calls.group(2));
            } else {
                Due.said("a line that is no call with its answer", line, "");
            }
        }
    }

    private static void make(WalkTimes x, String line, String calls, String told) throws ReflectiveOperationException {
        String[] answers = told.split(":", 2)[0].split(",");
        Matcher call = CALL.matcher(calls);
        int made = 0;
        while (call.find()) {
            MADE_IN_EXAMPLES.add(call.group(1));
            String answer = made < answers.length ? answers[made].trim() : "nothing";
            Due.said(call.group() + " of \"" + line + "\"", answer(x, call.group(1), call.group(2)), answer);
            made++;
        }
        Due.is("answers told of \"" + line + "\"", answers.length, made);
        Matcher said = SAID.matcher(line);
        if (said.find()) {
            int a = Integer.parseInt(said.group(1));
            int b = Integer.parseInt(said.group(2));
            Due.said("all that is said in \"" + line + "\"", Due.saidOf(x, a, b), said.group(3));
        }
    }

    private static String answer(WalkTimes x, String name, String told) throws ReflectiveOperationException {
        Method method = FACE.get(name);
        if (method == null) {
            return "no such call";
        }
        String[] parts = parts(told);
        if (parts.length != method.getParameterCount()) {
            return "it takes " + method.getParameterCount() + " arguments";
        }
        Object[] arguments = new Object[parts.length];
        for (int k = 0; k < parts.length; k++) {
            arguments[k] = argument(parts[k], method.getParameterTypes()[k]);
        }
        return method.invoke(x, arguments).toString();
    }

    private static String[] parts(String told) {
        return told.isEmpty() ? new String[0] : told.split(", ");
    }

    private static Object argument(String text, Class<?> type) {
        if (text.matches("'.'")) {
            return (int) text.charAt(1);
        }
        return type == long.class ? (Object) Long.valueOf(text) : (Object) Integer.valueOf(text);
    }

    /** Each call stands in one table, with as many arguments as it takes and the REFUSALS of its promise. */
    private static void tables(String readme) throws IOException {
        TreeMap<String, String> promised = refusalsByPromise(Files.readString(Path.of("../shared/DOC.md")));
        ArrayList<String> names = new ArrayList<>();
        Matcher told = TOLD.matcher(readme);
        while (told.find()) {
            String name = told.group(1);
            names.add(name);
            int takes = FACE.containsKey(name) ? FACE.get(name).getParameterCount() : -1;
            Due.is("arguments of " + told.group(), parts(told.group(2)).length, takes);
            Due.said("what " + name + " is refused with", numbers(told.group(3)), promised.get(name));
        }
        Due.is("calls that are told", names.size(), FACE.size());
        Due.said("which they are", new TreeSet<>(names).toString(), FACE.keySet().toString());
    }

    /** The REFUSALS that each promise tells, in their order (not what it says of numbers besides). */
    private static TreeMap<String, String> refusalsByPromise(String document) {
        TreeMap<String, String> all = new TreeMap<>();
        Matcher promise = Pattern.compile("(?m)^`(?:int|long) (\\w+)\\([^`]*\\)`: (.*)$").matcher(document);
        while (promise.find()) {
            String words = promise.group(2).replaceAll("\\([^)]*\\)", "").replace("REFUSALS -1 .. -6", "");
            all.put(promise.group(1), numbers(words));
        }
        return all;
    }

    private static String numbers(String text) {
        ArrayList<String> all = new ArrayList<>();
        Matcher number = Pattern.compile("-(?:1[1346]|[12346])(?!\\d)(?=[;:,. ]|$)").matcher(text);
        while (number.find()) {
            all.add(number.group());
        }
        return all.toString();
    }

    /** Each number that the table of REFUSALS tells is the answer of some call, and counted as it says. */
    private static void refusals(String readme) {
        ArrayList<String> numbers = new ArrayList<>();
        Matcher told = REFUSAL.matcher(readme);
        while (told.find()) {
            int number = Integer.parseInt(told.group(1));
            numbers.add(told.group(1));
            WalkTimes x = new WalkTimes();
            Due.is("an int refused with " + number, intRefused(x, number), Integer.parseInt(told.group(2)));
            counted(x, number, told.group(4), 1);
            if (!told.group(3).isEmpty()) {
                Due.is("a long refused with " + number, longRefused(x, number), Long.parseLong(told.group(3)));
                counted(x, number, told.group(4), 2);
            }
        }
        Due.said("REFUSALS that are told", numbers.toString(), "[-1, -2, -3, -4, -6, -11, -13, -14, -16]");
    }

    private static void counted(WalkTimes x, int number, String told, int times) {
        boolean counts = number >= -6;
        Due.said("where " + number + " is counted", told, counts ? "`count(" + (10 - number) + ")`" : "no");
        int all = 0;
        for (int what = 11; what <= 16; what++) {
            all += x.count(what);
        }
        Due.is("REFUSALS behind " + number, all, counts ? times : 0);
        if (counts) {
            Due.is("those that are " + number, x.count(10 - number), times);
        }
    }

    private static int intRefused(WalkTimes x, int number) {
        switch (number) {
            case -1: return x.lose(0);
            case -2: return x.slot(0, 6, 1);
            case -3: return x.on();
            case -4: return x.points(1);
            case -6: return x.points(7);
            case -11: return x.judge(0, 0);
            case -13: return x.list(1, 0) == 1 ? x.put(1, 0, 5) : 0;
            case -14: return x.list(0, -1);
            default: return x.way(0, 1, 1, 1) == 0 && x.slot(0, 5, 1) == 1 ? x.slots(0, 0, 0) : 0;
        }
    }

    private static long longRefused(WalkTimes x, int number) {
        switch (number) {
            case -1: return x.time(0, 4, 0);
            case -2: return x.time(0, 0, 2);
            case -3: return x.time(0, 1, 0);
            case -4: return x.sure(0, 1, 1, 0);
            case -6: return x.sure(0, 1, 21, 0);
            case -11: return x.look(0, 0);
            default: return x.look(1, 0);
        }
    }

    private static void testsAreTold(String readme) throws IOException {
        try (java.util.stream.Stream<Path> files = Files.list(Path.of("src/test/java"))) {
            for (Path file : (Iterable<Path>) files.sorted()::iterator) {
                String name = file.getFileName().toString().replace(".java", "");
                boolean told = readme.contains((name.endsWith("Test") ? "| `" : "`") + name + "`");
                Due.is(name + " is told", told ? 1 : 0, 1);
            }
        }
    }
}
