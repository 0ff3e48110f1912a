import java.util.Random;
import java.util.regex.Matcher;
import java.util.regex.Pattern;

/**
 * Promise 3 on many texts by chance (always the same ones): the place of a FAULT of kind 1 against
 * a pattern that tells whether a beginning can go on, kind 2 against the calls themselves.
 */
public final class StatementsTest {
    private static final Random CHANCE = new Random(43);
    private static final String[] WORDS = {"way", "kind", "load", "long", "lose", "points"};
    private static final int[] NUMBERS = {4, 3, 2, 2, 1, 1};
    private static final Pattern FORM = Pattern.compile(
        "(way( [0-9]){4};|kind( [0-9]){3};|(load|long)( [0-9]){2};|(lose|points) [0-9];)+");

    public static void main(String[] args) {
        int[] sorts = new int[3];
        WalkTimes x = new WalkTimes();
        WalkTimes like = new WalkTimes();
        for (int k = 0; k < 6000; k++) {
            if (k % 2 == 0) {
                x = new WalkTimes();
                like = new WalkTimes();
            }
            String text = someText(k % 4 < 2);
            sorts[told(x, like, text)]++;
        }
        for (int sort = 0; sort < sorts.length; sort++) {
            Due.is("texts of sort " + sort + " were many", sorts[sort] > 300 ? 1 : 0, 1);
        }
        Due.end("StatementsTest");
    }

    /** Sorts: 0 without FAULT, 1 and 2 its kind. */
    private static int told(WalkTimes x, WalkTimes like, String text) {
        int fault = faultOfForm(text);
        String before = Due.state(x);
        if (fault >= 0) {
            Due.tells(x, text, -1000 - fault);
            Due.said("the state behind \"" + text + "\"", Due.state(x), before);
            return 1;
        }
        like.image();
        int start = 0;
        int many = 0;
        for (String statement : text.split(";")) {
            if (call(like, statement) < 0) {
                Due.tells(x, text, -2000 - start);
                Due.said("the state behind \"" + text + "\"", Due.state(x), before);
                like.on();
                return 2;
            }
            start += statement.length() + 1;
            many++;
        }
        Due.tells(x, text, many);
        Due.said("the state behind \"" + text + "\"", Due.state(x), Due.state(like));
        return 0;
    }

    private static int faultOfForm(String text) {
        for (int n = 1; n <= text.length(); n++) {
            Matcher beginning = FORM.matcher(text.substring(0, n));
            if (!beginning.matches() && !beginning.hitEnd()) {
                return n - 1;
            }
        }
        return FORM.matcher(text).matches() ? -1 : text.length();
    }

    private static int call(WalkTimes x, String statement) {
        String[] parts = statement.split(" ");
        int[] v = new int[4];
        for (int k = 1; k < parts.length; k++) {
            v[k - 1] = Integer.parseInt(parts[k]);
        }
        switch (parts[0]) {
            case "way": return x.way(v[0], v[1], v[2], v[3]);
            case "kind": return x.kind(v[0], v[1], v[2]);
            case "load": return x.load(v[0], v[1]);
            case "long": return x.length(v[0], v[1]);
            case "lose": return x.lose(v[0]);
            default: return x.points(v[0]);
        }
    }

    private static String someText(boolean spoiled) {
        StringBuilder text = new StringBuilder();
        int many = CHANCE.nextInt(9);
        for (int k = 0; k < many; k++) {
            text.append(someStatement(text.length() == 0));
        }
        if (spoiled && text.length() > 0) {
            int place = CHANCE.nextInt(text.length());
            switch (CHANCE.nextInt(4)) {
                case 0: text.setLength(place); break;
                case 1: text.deleteCharAt(place); break;
                case 2: text.setCharAt(place, someLetter()); break;
                default: text.insert(place, someLetter()); break;
            }
        }
        return text.length() > 120 ? text.substring(0, 120) : text.toString();
    }

    private static char someLetter() {
        String often = " ;0123456789waykindloadlongsept";
        return CHANCE.nextInt(9) == 0 ? (char) CHANCE.nextInt(256) : often.charAt(CHANCE.nextInt(often.length()));
    }

    private static String someStatement(boolean first) {
        int word = first || CHANCE.nextInt(2) == 0 ? 0 : CHANCE.nextInt(WORDS.length);
        StringBuilder text = new StringBuilder(WORDS[word]);
        for (int k = 0; k < NUMBERS[word]; k++) {
            int most = CHANCE.nextInt(12) == 0 ? 10 : word == 5 ? 7 : k < 2 ? 4 : 9;
            int least = CHANCE.nextInt(12) == 0 ? 0 : word == 5 ? 3 : word == 0 && k >= 2 ? 1 : 0;
            text.append(' ').append(Math.min(9, least + CHANCE.nextInt(Math.max(1, most - least))));
        }
        return text.append(';').toString();
    }
}
