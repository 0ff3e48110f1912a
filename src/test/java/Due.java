import java.util.function.LongSupplier;

/** What a test of this project says of calls: which answers are due, which REFUSALS, and the end. */
final class Due {
    private static final long LONGS = 4000000000000000000L;
    private static int asked = 0;
    private static int wrong = 0;
    private static String sentence = "";
    private static int askedAhead = 0;

    private Due() {
    }

    /**
     * What is asked from here on is asked of these words of the document: of a promise, or of its
     * Terms (promise 0). SentencesTest looks for the words there.
     */
    static void sentence(int promise, String words) {
        endOfSentence();
        sentence = (promise == 0 ? "Terms" : "Promise " + promise) + ", \"" + words + "\": ";
        askedAhead = asked;
    }

    private static void endOfSentence() {
        if (!sentence.isEmpty() && asked == askedAhead) {
            tellWrong("nothing was asked of it");
        }
    }

    static void is(String call, long got, long want) {
        asked++;
        if (got != want) {
            tellWrong(call + " answered " + got + ", due is " + want);
        }
    }

    /** Of very many wrong answers the first are enough. */
    private static void tellWrong(String text) {
        wrong++;
        if (wrong <= 50) {
            System.out.println(sentence + text);
        }
    }

    static void said(String call, String got, String want) {
        asked++;
        if (!got.equals(want)) {
            tellWrong(call + " answered \"" + got + "\", due is \"" + want + "\"");
        }
    }

    /** A fraction, both parts of it. */
    static void fraction(String call, long above, long below, long wantAbove, long wantBelow) {
        is(call + " above the line", above, wantAbove);
        is(call + " below the line", below, wantBelow);
    }

    /** The call answers the REFUSAL, counts it if it is one that counts, and changes nothing else. */
    static void refuses(WalkTimes x, String call, int number, LongSupplier made) {
        refusal(x, call, number, number, made);
    }

    /** The same of a call that answers a long. */
    static void refusesLong(WalkTimes x, String call, int number, LongSupplier made) {
        refusal(x, call, number, LONGS - number, made);
    }

    private static void refusal(WalkTimes x, String call, int number, long answer, LongSupplier made) {
        String before = state(x);
        int[] counts = refusals(x);
        is(call, made.getAsLong(), answer);
        int[] then = refusals(x);
        for (int k = 1; k <= 6; k++) {
            is("count(" + (10 + k) + ") behind " + call, then[k], counts[k] + (number == -k ? 1 : 0));
        }
        said("the state behind " + call, state(x), before);
    }

    static int[] refusals(WalkTimes x) {
        int[] counts = new int[7];
        for (int k = 1; k <= 6; k++) {
            counts[k] = x.count(10 + k);
        }
        return counts;
    }

    /** All that the calls without REFUSALS tell of POINTS, WAYS, letters and the ROW. */
    static String state(WalkTimes x) {
        StringBuilder text = new StringBuilder();
        for (int what = 0; what <= 5; what++) {
            text.append(x.count(what)).append(' ');
        }
        int ways = x.count(1);
        for (int way = 0; way < ways; way++) {
            text.append("; ");
            for (int what = 0; what <= 7; what++) {
                text.append(x.of(way, what)).append(' ');
            }
        }
        return text.toString();
    }

    static void letters(WalkTimes x, String text) {
        int had = x.count(2);
        for (int k = 0; k < text.length(); k++) {
            is("letter " + k + " of \"" + text + "\"", x.letter(text.charAt(k)), had + k + 1);
        }
    }

    static void tells(WalkTimes x, String text, int answer) {
        letters(x, text);
        int[] counts = refusals(x);
        is("tells() of \"" + text + "\"", x.tells(), answer);
        is("count(2) behind tells()", x.count(2), 0);
        for (int k = 1; k <= 6; k++) {
            is("count(" + (10 + k) + ") behind tells() of \"" + text + "\"", x.count(10 + k), counts[k]);
        }
    }

    static String saidOf(WalkTimes x, int a, int b) {
        StringBuilder text = new StringBuilder();
        int many = x.says(a, b, -1);
        for (int i = 0; i < many; i++) {
            text.append((char) x.says(a, b, i));
        }
        return text.toString();
    }

    static void end(String test) {
        endOfSentence();
        System.out.println(test + ": " + asked + " answers, " + wrong + " not as due");
        if (asked == 0 || wrong != 0) {
            System.exit(1);
        }
    }
}
