import java.io.IOException;
import java.nio.file.DirectoryStream;
import java.nio.file.Files;
import java.nio.file.Path;
import java.util.ArrayList;
import java.util.TreeMap;
import java.util.regex.Matcher;
import java.util.regex.Pattern;

/**
 * Which words of the document are asked for by tests that name them (Due.sentence): each must stand
 * where the test says, and no words of the Terms or of a promise may be left that no test names.
 */
public final class SentencesTest {
    private static final Path DOCUMENT = Path.of("../shared/DOC.md");
    private static final Path TESTS = Path.of("src/test/java");
    private static final Pattern PROMISE = Pattern.compile("(?ms)^## Promise (\\d+): [^\\n]+\\n\\n`[^`]*`: (.*?)(?=^## |\\z)");
    private static final Pattern USE = Pattern.compile("(?m)^An object is used .*$");
    private static final Pattern TERMS = Pattern.compile("(?ms)^## Terms\\n(.*?)^Ahead of the calls");
    private static final String LITERAL = "\"(?:[^\"\\\\]|\\\\.)*\"";
    private static final Pattern NAMED = Pattern.compile(
        "Due\\.sentence\\((\\d+),\\s*(" + LITERAL + "(?:\\s*\\+\\s*" + LITERAL + ")*)\\)");

    public static void main(String[] args) throws IOException {
        TreeMap<Integer, String> sections = sections(Files.readString(DOCUMENT));
        Due.is("sections: Terms and 43 promises", sections.size(), 44);
        TreeMap<Integer, boolean[]> named = new TreeMap<>();
        sections.forEach((promise, words) -> named.put(promise, new boolean[words.length()]));
        for (String[] one : namedInTests()) {
            int promise = Integer.parseInt(one[1]);
            String words = sections.getOrDefault(promise, "");
            int place = words.indexOf(one[2]);
            Due.is("\"" + one[2] + "\" of " + one[0] + " stands in promise " + promise, place >= 0 ? 1 : 0, 1);
            for (; place >= 0; place = words.indexOf(one[2], place + 1)) {
                java.util.Arrays.fill(named.get(promise), place, place + one[2].length(), true);
            }
        }
        sections.forEach((promise, words) ->
            Due.said("what no test names of promise " + promise, left(words, named.get(promise)), ""));
        Due.end("SentencesTest");
    }

    /**
     * Promise 0 stands for how an object is used and for the Terms; the heads of both parts, "==== I."
     * and "==== II.", say nothing.
     */
    private static TreeMap<Integer, String> sections(String document) {
        TreeMap<Integer, String> sections = new TreeMap<>();
        Matcher use = USE.matcher(document);
        Matcher terms = TERMS.matcher(document);
        if (use.find() && terms.find()) {
            sections.put(0, plain(use.group() + "\n" + terms.group(1)));
        }
        Matcher promise = PROMISE.matcher(document);
        while (promise.find()) {
            sections.put(Integer.parseInt(promise.group(1)), plain(promise.group(2)));
        }
        return sections;
    }

    private static String plain(String text) {
        return text.replaceAll("(?m)^```.*$", "").replaceAll("==== I+\\.", "").replaceAll("\\s+", " ").trim();
    }

    /** File, promise and words. */
    private static ArrayList<String[]> namedInTests() throws IOException {
        ArrayList<String[]> all = new ArrayList<>();
        try (DirectoryStream<Path> files = Files.newDirectoryStream(TESTS, "*BoundsTest.java")) {
            for (Path file : files) {
                Matcher named = NAMED.matcher(Files.readString(file));
                while (named.find()) {
                    all.add(new String[] {file.getFileName().toString(), named.group(1), joined(named.group(2))});
                }
            }
        }
        return all;
    }

    private static String joined(String literals) {
        StringBuilder text = new StringBuilder();
        Matcher literal = Pattern.compile(LITERAL).matcher(literals);
        while (literal.find()) {
            String inside = literal.group();
            text.append(inside, 1, inside.length() - 1);
        }
        return text.toString().replace("\\\"", "\"").replace("\\\\", "\\");
    }

    private static String left(String words, boolean[] named) {
        StringBuilder text = new StringBuilder();
        for (int k = 0; k < named.length; k++) {
            text.append(named[k] ? ' ' : words.charAt(k));
        }
        return text.toString().replaceAll("\\s+", " ").replaceAll("[;,:. ]+", " ").trim();
    }
}
