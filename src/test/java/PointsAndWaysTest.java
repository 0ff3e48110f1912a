/** Promises 1 to 11: a new object, letters, STATEMENTS, POINTS, WAYS. */
public final class PointsAndWaysTest {
    public static void main(String[] args) {
        newObject();
        letter();
        tells();
        faultsOfForm();
        faultsOfStatements();
        points();
        way();
        kind();
        loadAndLength();
        lose();
        of();
        weightsAndMinutes();
        reaches();
        Due.end("PointsAndWaysTest");
    }

    private static void newObject() {
        WalkTimes x = new WalkTimes();
        Due.is("count(0) of a new object", x.count(0), 4);
        Due.is("count(1) of a new object", x.count(1), 0);
        Due.is("count(2) of a new object", x.count(2), 0);
        Due.is("count(3) of a new object", x.count(3), 0);
        Due.is("count(4) of a new object", x.count(4), 0);
        Due.is("count(5) of a new object", x.count(5), 4);
        for (int k = 11; k <= 16; k++) {
            Due.is("count(" + k + ") of a new object", x.count(k), 0);
        }
        for (int k = 0; k < 3; k++) {
            Due.is("a new LIST " + k, x.put(k, 0, 1), -11);
            Due.is("a new SLOT " + k, x.slots(k, 0, -1), -11);
        }
    }

    private static void letter() {
        WalkTimes x = new WalkTimes();
        Due.is("letter(0)", x.letter(0), 1);
        Due.is("letter(255)", x.letter(255), 2);
        Due.refuses(x, "letter(-1)", -4, () -> x.letter(-1));
        Due.refuses(x, "letter(256)", -6, () -> x.letter(256));
        for (int k = 3; k <= 120; k++) {
            Due.is("letter " + k, x.letter('w'), k);
        }
        Due.refuses(x, "letter 121", -6, () -> x.letter('w'));
        Due.refuses(x, "letter(-1) when 120 are there", -4, () -> x.letter(-1));
        Due.is("tells()", x.tells(), -1000);
        Due.is("letter behind tells", x.letter('w'), 1);
    }

    private static void tells() {
        WalkTimes x = new WalkTimes();
        Due.tells(x, "way 0 1 3 2;", 1);
        Due.said("the WAY told", Due.state(x), "4 1 0 0 3 3 ; 0 1 0 0 3 2 3 2 ");
        Due.tells(x, "points 6;way 4 5 9 9;kind 1 5 7;load 1 4;long 0 5;", 5);
        Due.said("WAYS told", Due.state(x), "6 2 0 0 7 4 ; 0 1 0 0 3 5 3 5 ; 4 5 5 7 4 9 4 16 ");
        Due.tells(x, "lose 0;load 0 9;", 2);
        Due.said("lost", Due.state(x), "6 1 0 0 9 5 ; 4 5 5 7 9 9 9 16 ");
        Due.tells(x, "points 5;", 1);
        Due.said("less POINTS", Due.state(x), "5 0 0 0 0 5 ");
        Due.tells(x, "way 0 1 1 1;way 0 1 2 1;way 0 1 3 1;way 0 1 4 1;way 0 1 5 1;"
            + "way 0 1 6 1;way 0 1 7 1;way 0 1 8 1;way 0 1 9 1;way 0 1 1 2;", 10);
        Due.is("WAYS there", x.count(1), 10);
        Due.is("WEIGHTS together", x.count(4), 46);
        // 120 letters, 17 STATEMENTS of seven letters and one letter.
        Due.tells(x, "lose 0;".repeat(10) + "way 0 1 1 1;".repeat(4), 14);
        Due.is("WAYS there", x.count(1), 4);
    }

    private static void faultsOfForm() {
        Due.is("tells() of nothing", new WalkTimes().tells(), -1000);
        form("w", 1);
        form("way", 3);
        form("way ", 4);
        form("way 0", 5);
        form("way 0 1 1 1", 11);
        form("way 0 1 1 1 ", 11);
        form("way 0 1 1;", 9);
        form("way 0 1 1 1;;", 12);
        form("way 0 1 1 1; ", 12);
        form("way 0 1 1 1;w", 13);
        form("way 0 1 1 1;way 0 1 1 a;", 22);
        form("way 0 1 1 11;", 11);
        form("way 10 1 1 1;", 5);
        form("way -1 1 1 1;", 4);
        form("Way 0 1 1 1;", 0);
        form(" way 0 1 1 1;", 0);
        form("ways", 3);
        form("wax", 2);
        form("x", 0);
        form("kin", 3);
        form("kind 0 1;", 8);
        form("kind 0 1 1 1;", 10);
        form("l", 1);
        form("lx", 1);
        form("lo", 2);
        form("lox", 2);
        form("loa ", 3);
        form("lon0", 3);
        form("los;", 3);
        form("load;", 4);
        form("load 0;", 6);
        form("long 0 1 2;", 8);
        form("lose 0 1;", 6);
        form("loser", 4);
        form("point 3;", 5);
        form("points 3 3;", 8);
        form("points /;", 7);
        form("points :;", 7);
        form("" + (char) 255, 0);
        // What is not as it must be does not matter if the form has a fault behind it.
        form("lose 9;lose", 11);
    }

    private static void form(String text, int place) {
        WalkTimes x = new WalkTimes();
        Due.tells(x, text, -1000 - place);
        Due.said("FAULTS changed nothing", Due.state(x), "4 0 0 0 0 4 ");
    }

    private static void faultsOfStatements() {
        wrong("way 0 4 1 1;", -2000);
        wrong("way 2 2 1 1;", -2000);
        wrong("way 0 1 0 1;", -2000);
        wrong("way 0 1 1 0;", -2000);
        wrong("lose 0;", -2000);
        wrong("points 1;", -2000);
        wrong("points 7;", -2000);
        wrong("way 0 1 1 1;kind 0 6 0;", -2012);
        wrong("way 0 1 1 1;kind 1 0 0;", -2012);
        wrong("way 0 1 1 1;load 0 0;", -2012);
        wrong("way 0 1 1 1;long 0 0;", -2012);
        wrong("way 0 1 1 1;long 1 1;", -2012);
        wrong("way 0 3 1 1;points 3;lose 0;", -2021);
        wrong("points 6;way 5 4 1 1;lose 0;lose 0;way 0 0 1 1;", -2028);
        wrong("points 3;way 0 3 1 1;", -2009);
        WalkTimes x = new WalkTimes();
        for (int k = 0; k < 9; k++) {
            x.way(0, 1, 1, 1);
        }
        Due.tells(x, "way 1 2 1 1;way 1 2 1 1;", -2012);
        Due.is("WAYS there", x.count(1), 9);
        Due.tells(x, "way 1 2 1 1;lose 0;way 1 2 1 1;", 3);
        Due.is("WAYS there", x.count(1), 10);
    }

    private static void wrong(String text, int answer) {
        WalkTimes x = new WalkTimes();
        Due.tells(x, text, answer);
        Due.said("FAULTS changed nothing", Due.state(x), "4 0 0 0 0 4 ");
    }

    private static void points() {
        WalkTimes x = new WalkTimes();
        Due.is("points(6)", x.points(6), 4);
        Due.is("points(6) again", x.points(6), 6);
        x.way(0, 5, 1, 1);
        x.way(1, 2, 2, 2);
        x.way(4, 1, 3, 3);
        x.way(0, 1, 4, 4);
        Due.refuses(x, "points(1)", -4, () -> x.points(1));
        Due.refuses(x, "points(7)", -6, () -> x.points(7));
        Due.is("points(5)", x.points(5), 6);
        Due.said("behind points(5)", Due.state(x),
            "5 3 0 0 9 2 ; 1 2 0 0 2 2 2 2 ; 4 1 0 0 3 3 3 3 ; 0 1 0 0 4 4 4 4 ");
        Due.is("points(4)", x.points(4), 5);
        Due.said("behind points(4)", Due.state(x), "4 2 0 0 6 2 ; 1 2 0 0 2 2 2 2 ; 0 1 0 0 4 4 4 4 ");
        Due.is("points(2)", x.points(2), 4);
        Due.said("behind points(2)", Due.state(x), "2 1 0 0 4 1 ; 0 1 0 0 4 4 4 4 ");
        Due.is("points(3)", x.points(3), 2);
        Due.is("WAYS stay gone", x.count(1), 1);
    }

    private static void way() {
        WalkTimes x = new WalkTimes();
        Due.is("way(0, 1, 1, 9)", x.way(0, 1, 1, 9), 0);
        Due.is("way(1, 0, 9, 1)", x.way(1, 0, 9, 1), 1);
        Due.refuses(x, "way(-1, 1, 0, 0)", -1, () -> x.way(-1, 1, 0, 0));
        Due.refuses(x, "way(1, 4, 0, 0)", -1, () -> x.way(1, 4, 0, 0));
        Due.refuses(x, "way(2, 2, 10, 10)", -1, () -> x.way(2, 2, 10, 10));
        Due.refuses(x, "way(2, 3, 0, 10)", -4, () -> x.way(2, 3, 0, 10));
        Due.refuses(x, "way(2, 3, 10, 0)", -4, () -> x.way(2, 3, 10, 0));
        Due.refuses(x, "way(2, 3, 10, 1)", -6, () -> x.way(2, 3, 10, 1));
        Due.refuses(x, "way(2, 3, 1, 10)", -6, () -> x.way(2, 3, 1, 10));
        for (int k = 2; k < 10; k++) {
            Due.is("WAY " + k, x.way(2, 3, 5, 6), k);
        }
        Bound.refuses(Nets::tenWays, "an eleventh WAY", -6, y -> y.way(2, 3, 1, 1));
        Bound.refuses(Nets::tenWays, "an eleventh WAY, LOAD 0", -4, y -> y.way(2, 3, 0, 1));
        Bound.refuses(Nets::tenWays, "an eleventh WAY to no POINT", -1, y -> y.way(2, 6, 1, 1));
    }

    private static void kind() {
        WalkTimes x = new WalkTimes();
        Due.refuses(x, "kind(0, 1, 1)", -1, () -> x.kind(0, 1, 1));
        x.way(0, 1, 5, 5);
        Due.is("kind(0, 3, 7)", x.kind(0, 3, 7), 0);
        Due.is("kind(0, 5, 9)", x.kind(0, 5, 9), 37);
        Due.is("kind(0, 0, 0)", x.kind(0, 0, 0), 59);
        Due.is("kind(0, 4, 2)", x.kind(0, 4, 2), 0);
        Due.refuses(x, "kind(-1, 9, -1)", -1, () -> x.kind(-1, 9, -1));
        Due.refuses(x, "kind(1, 9, -1)", -1, () -> x.kind(1, 9, -1));
        Due.refuses(x, "kind(0, 6, -1)", -2, () -> x.kind(0, 6, -1));
        Due.refuses(x, "kind(0, -1, 10)", -2, () -> x.kind(0, -1, 10));
        Due.refuses(x, "kind(0, 1, -1)", -4, () -> x.kind(0, 1, -1));
        Due.refuses(x, "kind(0, 1, 10)", -6, () -> x.kind(0, 1, 10));
        Due.is("KIND stays", x.of(0, 2), 4);
        Due.is("FIGURE stays", x.of(0, 3), 2);
    }

    private static void loadAndLength() {
        WalkTimes x = new WalkTimes();
        x.way(0, 1, 5, 6);
        Due.is("load(0, 9)", x.load(0, 9), 5);
        Due.is("load(0, 1)", x.load(0, 1), 9);
        Due.refuses(x, "load(1, 0)", -1, () -> x.load(1, 0));
        Due.refuses(x, "load(-1, 10)", -1, () -> x.load(-1, 10));
        Due.refuses(x, "load(0, 0)", -4, () -> x.load(0, 0));
        Due.refuses(x, "load(0, 10)", -6, () -> x.load(0, 10));
        Due.is("length(0, 9)", x.length(0, 9), 6);
        Due.is("length(0, 1)", x.length(0, 1), 9);
        Due.refuses(x, "length(1, 0)", -1, () -> x.length(1, 0));
        Due.refuses(x, "length(-1, 10)", -1, () -> x.length(-1, 10));
        Due.refuses(x, "length(0, 0)", -4, () -> x.length(0, 0));
        Due.refuses(x, "length(0, 10)", -6, () -> x.length(0, 10));
        Due.said("behind these", Due.state(x), "4 1 0 0 1 3 ; 0 1 0 0 1 1 1 1 ");
    }

    private static void lose() {
        WalkTimes x = new WalkTimes();
        Due.refuses(x, "lose(0)", -1, () -> x.lose(0));
        x.way(0, 1, 1, 1);
        x.way(1, 2, 2, 2);
        x.way(2, 3, 3, 3);
        x.kind(2, 1, 8);
        Due.refuses(x, "lose(3)", -1, () -> x.lose(3));
        Due.refuses(x, "lose(-1)", -1, () -> x.lose(-1));
        Due.is("lose(1)", x.lose(1), 2);
        Due.said("behind lose(1)", Due.state(x), "4 2 0 0 3 2 ; 0 1 0 0 1 1 1 1 ; 2 3 1 8 3 3 2 3 ");
        Due.is("lose(1)", x.lose(1), 1);
        Due.is("lose(0)", x.lose(0), 0);
        x.way(2, 3, 4, 4);
        Due.said("a new WAY is of KIND 0", Due.state(x), "4 1 0 0 4 3 ; 2 3 0 0 4 4 4 4 ");
    }

    private static void of() {
        WalkTimes x = new WalkTimes();
        Due.refuses(x, "of(0, 0)", -1, () -> x.of(0, 0));
        x.way(3, 1, 5, 7);
        x.kind(0, 4, 2);
        int[] want = {3, 1, 4, 2, 5, 7, 4, 9};
        for (int what = 0; what < want.length; what++) {
            Due.is("of(0, " + what + ")", x.of(0, what), want[what]);
        }
        Due.refuses(x, "of(0, 8)", -2, () -> x.of(0, 8));
        Due.refuses(x, "of(0, -1)", -2, () -> x.of(0, -1));
        Due.refuses(x, "of(1, 8)", -1, () -> x.of(1, 8));
        Due.refuses(x, "of(-1, 0)", -1, () -> x.of(-1, 0));
    }

    private static void weightsAndMinutes() {
        // LOAD 7, LENGTH 5, FIGURE 6, then LOAD 2, LENGTH 8, FIGURE 9, by KINDS.
        int[] weights = {7, 4, 14, 8, 5, 7};
        int[] minutes = {5, 5, 3, 3, 11, 11};
        int[] otherWeights = {2, 1, 4, 1, 2, 2};
        int[] otherMinutes = {8, 8, 4, 4, 17, 17};
        WalkTimes x = new WalkTimes();
        x.way(0, 1, 7, 5);
        x.way(0, 1, 2, 8);
        for (int kind = 0; kind < 6; kind++) {
            x.kind(0, kind, 6);
            x.kind(1, kind, 9);
            Due.is("WEIGHT of KIND " + kind, x.of(0, 6), weights[kind]);
            Due.is("MINUTES of KIND " + kind, x.of(0, 7), minutes[kind]);
            Due.is("WEIGHT of KIND " + kind, x.of(1, 6), otherWeights[kind]);
            Due.is("MINUTES of KIND " + kind, x.of(1, 7), otherMinutes[kind]);
            Due.is("WEIGHTS together", x.count(4), weights[kind] + otherWeights[kind]);
        }
    }

    private static void reaches() {
        WalkTimes x = new WalkTimes();
        x.points(6);
        for (int a = 0; a < 6; a++) {
            Due.is("reaches(" + a + ") without WAYS", x.reaches(a), 1 << a);
        }
        x.way(5, 3, 1, 1);
        x.way(0, 4, 1, 1);
        x.way(3, 4, 1, 1);
        Due.is("reaches(0)", x.reaches(0), 0b111001);
        Due.is("reaches(5)", x.reaches(5), 0b111001);
        Due.is("reaches(1)", x.reaches(1), 0b000010);
        Due.refuses(x, "reaches(6)", -1, () -> x.reaches(6));
        Due.refuses(x, "reaches(-1)", -1, () -> x.reaches(-1));
        // A chain whose WAYS come from its far end on.
        WalkTimes y = new WalkTimes();
        y.points(6);
        for (int k = 4; k >= 0; k--) {
            y.way(k, k + 1, 1, 1);
        }
        Due.is("reaches(0) along a chain", y.reaches(0), 63);
        Due.is("reaches(5) along a chain", y.reaches(5), 63);
    }
}
