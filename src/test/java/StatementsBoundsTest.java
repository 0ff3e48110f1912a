import java.util.regex.Matcher;
import java.util.regex.Pattern;

/** Promise 3 and the Terms of STATEMENTS and FAULTS: each sentence at its bounds. */
public final class StatementsBoundsTest {
    private static final String[] SAMPLES = {"way 0 1 3 2;", "kind 0 5 4;", "load 0 8;", "long 0 9;", "lose 0;",
        "points 6;"};
    private static final Pattern FORM = Pattern.compile(
        "(way( [0-9]){4};|kind( [0-9]){3};|(load|long)( [0-9]){2};|(lose|points) [0-9];)+");

    public static void main(String[] args) {
        howMany();
        lettersAreNoMore();
        noRefusalIsCounted();
        fullText();
        words();
        way();
        kindLoadLong();
        loseAndPoints();
        atLeastOne();
        ends();
        firstWrongLetter();
        firstWrongStatement();
        behindAllAhead();
        allOrNothing();
        Due.end("StatementsBoundsTest");
    }

    /** 4 POINTS and two WAYS, of KIND 0 and 3. */
    private static WalkTimes two() {
        return Nets.of(4, Nets.way(0, 1, 2, 3), Nets.way(1, 2, 4, 5, 3, 6));
    }

    private static void tells(String text, int answer) {
        Due.tells(two(), text, answer);
    }

    private static void howMany() {
        Due.sentence(3, "The letters become STATEMENTS, and are no more (with a FAULT neither): how many; the FAULT");
        for (String sample : SAMPLES) {
            tells(sample, 1);
            tells(sample + "load 0 1;".repeat(sample.equals("lose 0;") ? 1 : 2), sample.equals("lose 0;") ? 2 : 3);
        }
        WalkTimes x = Nets.tenWays();
        Due.tells(x, "lose 0;".repeat(10) + "points 4;".repeat(5), 15);
        Due.said("behind 15 STATEMENTS", Due.state(x), "4 0 0 0 0 4 ");
        tells("points 7;", -2000);
        tells("points", -1006);
    }

    private static void lettersAreNoMore() {
        Due.sentence(3, "and are no more (with a FAULT neither)");
        String[] texts = {"load 0 1;", "load 0 1", "load 9 1;"};
        for (String text : texts) {
            WalkTimes x = two();
            Nets.letters(x, text);
            x.tells();
            Due.is("letters behind \"" + text + "\"", x.count(2), 0);
            Due.is("tells() of no letters", x.tells(), -1000);
            Due.tells(x, "load 0 7;", 1);
            Due.is("LOAD", x.of(0, 4), 7);
        }
    }

    private static void noRefusalIsCounted() {
        Due.sentence(3, "the FAULT (no REFUSAL is counted).");
        String[] texts = {"", "x", "way 0 0 1 1;", "way 0 1 0 1;", "kind 0 6 0;", "kind 9 0 0;", "load 0 0;",
            "long 5 1;", "lose 4;", "points 1;", "points 7;", "way 0 5 1 1;", "load 0 1;lose 9;"};
        for (String text : texts) {
            WalkTimes x = Nets.rich();
            x.tells();
            String before = Due.state(x);
            int[] counts = Due.refusals(x);
            Nets.letters(x, text);
            Due.is("\"" + text + "\" has a FAULT", x.tells() <= -1000 ? 1 : 0, 1);
            for (int k = 1; k <= 6; k++) {
                Due.is("count(" + (10 + k) + ") behind \"" + text + "\"", x.count(10 + k), counts[k]);
            }
            Due.said("the state behind \"" + text + "\"", Due.state(x), before);
        }
        // Ten are there: an eleventh is a FAULT, too, and not counted.
        WalkTimes x = Nets.tenWays();
        Due.tells(x, "way 0 1 1 1;", -2000);
        Due.is("WAYS", x.count(1), 10);
    }

    private static void fullText() {
        Due.sentence(0, "Ways are told in letters (120 at most): STATEMENTS,");
        String nine = "way 0 1 1 1;".repeat(9);
        Due.tells(new WalkTimes(), nine + "way 0 1 1 1;", 10);
        Due.tells(new WalkTimes(), nine + "way 0 1 1 1", -1119);
        Due.tells(new WalkTimes(), nine + "way 0 1 1 1x", -1119);
        Due.tells(new WalkTimes(), nine + "way 0 1 1 11", -1119);
        Due.tells(new WalkTimes(), nine + "kind 0 1 1;w", -1120);
        Due.tells(new WalkTimes(), nine + "kind 0 1 1;;", -1119);
        Due.tells(new WalkTimes(), nine + "way 0 0 1 1;", -2108);
        Due.tells(Nets.tenWays(), "load 0 1;".repeat(12) + "way 0 1 1 1;", -2108);
        Due.tells(Nets.tenWays(), "load 0 1;".repeat(5) + "lose 0;".repeat(10), 15);
        Due.tells(Nets.tenWays(), "load 0 1;".repeat(4) + "lose 0;".repeat(12), -2106);
        WalkTimes x = new WalkTimes();
        Nets.letters(x, nine + "way 0 1 1 1;");
        Due.is("letter 121", x.letter(';'), -6);
        Due.is("tells() of 120", x.tells(), 10);
    }

    private static void words() {
        Due.sentence(0, "each with \";\" behind: a word, then its numbers (one digit each), a blank ahead of each:");
        for (String sample : SAMPLES) {
            int n = sample.length();
            tells(sample, 1);
            tells(sample.substring(0, n - 1), -1000 - n + 1);
            tells(sample.substring(0, n - 1) + ",", -1000 - n + 1);
            tells(sample + ";", -1000 - n);
            tells(sample + " ", -1000 - n);
            tells(" " + sample, -1000);
            // One digit more, one number more, a blank more or one that lacks, behind the last number.
            tells(sample.substring(0, n - 1) + "0;", -1000 - n + 1);
            tells(sample.substring(0, n - 1) + " 0;", -1000 - n + 1);
            tells(sample.substring(0, n - 1) + " ;", -1000 - n + 1);
            tells(sample.substring(0, n - 2) + " 1;", -1000 - n + 2);
            tells(sample.substring(0, n - 3) + "1;", -1000 - n + 3);
            tells(sample.substring(0, n - 3) + ";", -1000 - n + 3);
            tells(sample.substring(0, n - 2) + ";", -1000 - n + 2);
            tells(sample.substring(0, n - 2) + "/;", -1000 - n + 2);
            tells(sample.substring(0, n - 2) + ":;", -1000 - n + 2);
            tells(sample.substring(0, n - 2) + "-1;", -1000 - n + 2);
            tells(sample.substring(0, 1).toUpperCase() + sample.substring(1), -1000);
        }
    }

    /** The STATEMENT does what the call does, or is a FAULT of kind 2 where the call is refused. */
    private static void asTheCall(WalkTimes told, WalkTimes called, String text, int answer) {
        Nets.letters(told, text);
        Due.is("tells() of \"" + text + "\"", told.tells(), answer < 0 ? -2000 : 1);
        Due.said("the state behind \"" + text + "\"", Due.state(told), Due.state(called));
        for (int k = 11; k <= 16; k++) {
            Due.is("count(" + k + ") behind \"" + text + "\"", told.count(k), 0);
        }
    }

    private static void way() {
        Due.sentence(0, "way POINT POINT LOAD LENGTH (a WAY more, of KIND 0, FIGURE 0);");
        for (int v = 0; v < 10000; v++) {
            int a = v / 1000;
            int b = v / 100 % 10;
            WalkTimes called = two();
            int answer = called.way(a, b, v / 10 % 10, v % 10);
            asTheCall(two(), called, "way " + a + " " + b + " " + v / 10 % 10 + " " + v % 10 + ";", answer);
        }
        WalkTimes x = two();
        Due.tells(x, "lose 1;way 2 3 7 8;", 2);
        Due.said("the place of a TOLL", Due.state(x), "4 2 0 0 9 2 ; 0 1 0 0 2 3 2 3 ; 2 3 0 0 7 8 7 8 ");
    }

    private static void kindLoadLong() {
        Due.sentence(0, "kind WAY KIND FIGURE;");
        for (int v = 0; v < 1000; v++) {
            WalkTimes called = two();
            int answer = called.kind(v / 100, v / 10 % 10, v % 10);
            asTheCall(two(), called, "kind " + v / 100 + " " + v / 10 % 10 + " " + v % 10 + ";", answer);
        }
        Due.sentence(0, "load WAY LOAD;");
        for (int v = 0; v < 100; v++) {
            WalkTimes called = two();
            int answer = called.load(v / 10, v % 10);
            asTheCall(two(), called, "load " + v / 10 + " " + v % 10 + ";", answer);
        }
        Due.sentence(0, "long WAY LENGTH;");
        for (int v = 0; v < 100; v++) {
            WalkTimes called = two();
            int answer = called.length(v / 10, v % 10);
            asTheCall(two(), called, "long " + v / 10 + " " + v % 10 + ";", answer);
        }
    }

    private static void loseAndPoints() {
        Due.sentence(0, "lose WAY (it is gone, later ones have 1 less);");
        for (int v = 0; v < 10; v++) {
            WalkTimes called = two();
            int answer = called.lose(v);
            asTheCall(two(), called, "lose " + v + ";", answer);
            called = Nets.tenWays();
            answer = called.lose(v);
            asTheCall(Nets.tenWays(), called, "lose " + v + ";", answer);
        }
        WalkTimes x = two();
        Due.tells(x, "lose 0;load 0 9;", 2);
        Due.said("WAY 1 is WAY 0", Due.state(x), "4 1 0 0 12 3 ; 1 2 3 6 9 5 12 3 ");
        tells("lose 0;load 1 9;", -2007);
        Due.sentence(0, "points P (WAYS to POINTS that are no more are gone, too).");
        for (int v = 0; v < 10; v++) {
            WalkTimes called = two();
            int answer = called.points(v);
            asTheCall(two(), called, "points " + v + ";", answer);
            called = Nets.tenWays();
            answer = called.points(v);
            asTheCall(Nets.tenWays(), called, "points " + v + ";", answer);
        }
    }

    private static void atLeastOne() {
        Due.sentence(0, "At least one.");
        tells("", -1000);
        tells("lose 0;", 1);
        Due.tells(new WalkTimes(), "", -1000);
        Due.tells(Nets.tenWays(), "", -1000);
    }

    private static void ends() {
        Due.sentence(0, "(the end, if something lacks)");
        for (String sample : SAMPLES) {
            for (int n = 0; n < sample.length(); n++) {
                tells(sample.substring(0, n), -1000 - n);
                if (n > 0) {
                    tells("load 0 1;" + sample.substring(0, n), -1009 - n);
                }
            }
            tells("load 0 1;" + sample, 2);
        }
    }

    /** Each letter 0 .. 255 at each place of each sort of STATEMENT, first and behind another one. */
    private static void firstWrongLetter() {
        Due.sentence(0, "FAULT: kind 1 the place of the first letter with which no STATEMENTS can go on"
            + " (the end, if something lacks): -1000 less the place;");
        for (String sample : SAMPLES) {
            for (int place = 0; place < sample.length(); place++) {
                for (int c = 0; c <= 255; c++) {
                    String text = sample.substring(0, place) + (char) c + sample.substring(place + 1);
                    form(text);
                    form("load 1 9;" + text);
                }
            }
        }
        // Words begin alike: load, long, lose.
        String[] texts = {"l", "lo", "la", "loa", "lon", "los", "lod", "loaf", "lost", "lond", "loadd", "longe 0 1;",
            "p", "po", "ponts", "pointss", "w", "wy", "ka", "kindd", "way 0 1 1 1;l", "way 0 1 1 1;lo;"};
        for (String text : texts) {
            form(text);
        }
        tells("lox", -1002);
        tells("load;", -1004);
        tells("loax 0 1;", -1003);
        // A fault of the form goes ahead of what is not as it must be, wherever that is.
        tells("lose 9;lose", -1011);
        tells("lose 9;lose 9;x", -1014);
    }

    private static void form(String text) {
        int fault = faultOfForm(text);
        WalkTimes x = two();
        Nets.letters(x, text);
        int answer = x.tells();
        if (fault >= 0) {
            Due.is("tells() of \"" + text + "\"", answer, -1000 - fault);
        } else {
            Due.is("\"" + text + "\" has no FAULT of kind 1", answer > 0 || answer <= -2000 ? 1 : 0, 1);
        }
    }

    private static int faultOfForm(String text) {
        for (int n = 1; n <= text.length(); n++) {
            Matcher beginning = FORM.matcher(text.substring(0, n));
            if (!beginning.matches() && !beginning.hitEnd()) {
                return n - 1;
            }
        }
        return FORM.matcher(text).matches() ? -1 : text.length();
    }

    private static void firstWrongStatement() {
        Due.sentence(0, "else kind 2 the place of the first letter of the first STATEMENT that, behind all ahead of it"
            + " in the text, is not as it must be (as way(), kind() .. refuse it): -2000 less the place.");
        String[] wrong = {"way 0 0 1 1;", "way 0 4 1 1;", "way 4 0 1 1;", "way 0 1 0 1;", "way 0 1 1 0;", "kind 2 0 0;",
            "kind 0 6 0;", "load 2 1;", "load 0 0;", "long 2 1;", "long 0 0;", "lose 2;", "points 1;", "points 7;",
            "points 0;", "kind 9 9 9;"};
        for (String text : wrong) {
            tells(text, -2000);
            tells("load 0 1;" + text, -2009);
            tells("load 0 1;load 1 1;" + text + "load 0 1;", -2018);
            // Of several the first.
            tells(text + "lose 9;", -2000);
            tells("kind 0 1 1;" + text + "points 9;" + text, -2011);
        }
    }

    private static void behindAllAhead() {
        Due.sentence(0, "behind all ahead of it in the text");
        tells("lose 0;lose 0;lose 0;", -2014);
        tells("lose 0;lose 0;way 0 1 1 1;lose 0;", 4);
        tells("lose 1;kind 1 0 0;", -2007);
        tells("points 3;way 0 3 1 1;", -2009);
        tells("points 5;way 0 4 1 1;", 2);
        tells("points 2;lose 1;", -2009);
        tells("points 2;lose 0;points 6;way 5 4 1 1;", 4);
        tells("way 0 1 1 1;kind 2 5 9;load 2 9;long 2 9;", 4);
        WalkTimes nine = Nets.tenWays();
        nine.lose(9);
        Due.tells(nine, "way 1 2 1 1;way 1 2 1 1;", -2012);
        Due.tells(nine, "way 1 2 1 1;lose 0;way 1 2 1 1;", 3);
        Due.is("WAYS", nine.count(1), 10);
    }

    private static void allOrNothing() {
        Due.sentence(0, "Without FAULT all of it comes, with one nothing.");
        String all = "points 6;way 4 5 9 8;kind 2 5 7;load 0 6;long 1 1;lose 0;";
        WalkTimes x = two();
        Due.tells(x, all, 6);
        Due.said("all of it", Due.state(x), "6 2 0 0 11 4 ; 1 2 3 6 4 1 2 1 ; 4 5 5 7 9 8 9 15 ");
        String before = Due.state(two());
        String[] faults = {"lose 2;", "x", "l", "points 1;"};
        for (String fault : faults) {
            WalkTimes y = two();
            Nets.letters(y, all + fault);
            Due.is("\"" + all + fault + "\" has a FAULT", y.tells() <= -1000 ? 1 : 0, 1);
            Due.said("nothing of \"" + all + fault + "\"", Due.state(y), before);
        }
    }
}
