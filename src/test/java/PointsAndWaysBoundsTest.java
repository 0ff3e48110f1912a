/** Promises 1, 2 and 4 to 11, and the Terms of POINTS and WAYS: each sentence at its bounds. */
public final class PointsAndWaysBoundsTest {
    private static final int LEAST = Product.LEAST;
    private static final int MOST = Product.MOST;

    public static void main(String[] args) {
        newObject();
        pointsThereAre();
        letter();
        points();
        pointsRefused();
        way();
        wayRefused();
        waysThereAre();
        kind();
        load();
        length();
        lose();
        of();
        reaches();
        weights();
        minutes();
        kinds();
        Due.end("PointsAndWaysBoundsTest");
    }

    private static void newObject() {
        Due.sentence(1, "4 POINTS, no WAYS.");
        WalkTimes x = new WalkTimes();
        Due.said("a new object", Due.state(x), "4 0 0 0 0 4 ");
        Bound.asks(Nets::empty, "reaches(3)", 8, y -> y.reaches(3));
        Bound.refuses(Nets::empty, "reaches(4)", -1, y -> y.reaches(4));
        Bound.refuses(Nets::empty, "of(0, 0)", -1, y -> y.of(0, 0));
        for (int what = 11; what <= 16; what++) {
            Due.is("count(" + what + ") of a new object", x.count(what), 0);
        }
        WalkTimes full = Nets.full();
        Due.said("a new object beside a full one", Due.state(new WalkTimes()), "4 0 0 0 0 4 ");
        Due.is("WAYS of the full one", full.count(1), 10);
    }

    private static void pointsThereAre() {
        Due.sentence(0, "POINTS 0 .. P less 1 (P 2 .. 6; 4 at first).");
        Due.is("P at first", new WalkTimes().count(0), 4);
        for (int n = 2; n <= 6; n++) {
            int p = n;
            String of = " of " + p + " POINTS";
            Bound.asks(() -> Nets.of(p), "reaches(0)" + of, 1, x -> x.reaches(0));
            Bound.asks(() -> Nets.of(p), "reaches(P less 1)" + of, 1 << p - 1, x -> x.reaches(p - 1));
            Bound.refuses(() -> Nets.of(p), "reaches(-1)" + of, -1, x -> x.reaches(-1));
            Bound.refuses(() -> Nets.of(p), "reaches(P)" + of, -1, x -> x.reaches(p));
            Bound.takes(() -> Nets.of(p), "way(P less 1, 0, 1, 1)" + of, 0, x -> x.way(p - 1, 0, 1, 1));
            Bound.refuses(() -> Nets.of(p), "way(P, 0, 1, 1)" + of, -1, x -> x.way(p, 0, 1, 1));
            Bound.refuses(() -> Nets.of(p), "way(0, P, 1, 1)" + of, -1, x -> x.way(0, p, 1, 1));
        }
    }

    private static void letter() {
        Due.sentence(2, "A letter (0 .. 255) comes: how many there are.");
        for (int c = 0; c <= 255; c++) {
            int letter = c;
            Bound.takes(Nets::empty, "letter(" + c + ")", 1, x -> x.letter(letter));
            Bound.takes(Nets::rich, "letter(" + c + ") behind 19", 20, x -> x.letter(letter));
        }
        WalkTimes x = new WalkTimes();
        for (int k = 1; k <= 120; k++) {
            Due.is("letter " + k, x.letter(255 - k), k);
            Due.is("count(2) behind letter " + k, x.count(2), k);
        }
        Due.sentence(2, "-4; -6 (255; 120, too).");
        Product.ofInts(Nets::rich, "letter", (y, v) -> y.letter(v[0]))
            .argument(Product.good(0, 255), Product.no(-4, LEAST, -1), Product.no(-6, 256, MOST)).inOrder(-4, -6);
        Product.ofInts(Nets::full, "letter of 120", (y, v) -> y.letter(v[0]))
            .argument(Product.no(-4, LEAST, -1), Product.no(-6, 0, 119, 255, 256, MOST)).inOrder(-4, -6);
        Bound.takes(() -> letters(119), "letter 120", 120, y -> y.letter('a'));
        Bound.refuses(() -> letters(120), "letter 121", -6, y -> y.letter('a'));
        Bound.takes(PointsAndWaysBoundsTest::fullAndTold, "letter behind tells()", 1, y -> y.letter('a'));
    }

    private static WalkTimes letters(int n) {
        WalkTimes x = new WalkTimes();
        Nets.letters(x, "points 5;".repeat(14).substring(0, n));
        return x;
    }

    private static WalkTimes fullAndTold() {
        WalkTimes x = letters(120);
        x.tells();
        return x;
    }

    private static void points() {
        Due.sentence(4, "P becomes n (WAYS to POINTS that are no more are gone): what it was.");
        for (int from = 2; from <= 6; from++) {
            for (int to = 2; to <= 6; to++) {
                WalkTimes x = Nets.of(from);
                Due.is("points(" + to + ") of " + from, x.points(to), from);
                Due.is("count(0) behind points(" + to + ") of " + from, x.count(0), to);
            }
        }
        for (int to = 2; to <= 6; to++) {
            WalkTimes x = Nets.tenWays();
            String want = kept(x, to);
            Due.is("points(" + to + ") of ten WAYS", x.points(to), 6);
            Due.said("WAYS behind points(" + to + ")", kept(x, 6), want);
            x.points(6);
            Due.said("WAYS when 6 POINTS are there again", kept(x, 6), want);
        }
        // A POINT is no more whichever end it was; what was alone or joined to others stays as it is.
        WalkTimes x = Nets.plain(4, 30, 1, 13, 12, 23);
        Due.is("points(3)", x.points(3), 4);
        Due.said("behind it", Due.state(x), "3 2 0 0 2 1 ; 0 1 0 0 1 1 1 1 ; 1 2 0 0 1 1 1 1 ");
        Due.is("points(2)", x.points(2), 3);
        Due.said("behind it", Due.state(x), "2 1 0 0 1 1 ; 0 1 0 0 1 1 1 1 ");
    }

    /** WAYS whose ends are both below this, with all that is theirs, in their order. */
    private static String kept(WalkTimes x, int below) {
        StringBuilder text = new StringBuilder();
        for (int way = 0; way < x.count(1); way++) {
            if (x.of(way, 0) < below && x.of(way, 1) < below) {
                for (int what = 0; what <= 7; what++) {
                    text.append(x.of(way, what)).append(' ');
                }
                text.append("; ");
            }
        }
        return text.toString();
    }

    private static void pointsRefused() {
        Due.sentence(4, "-4 (below 2); -6 6.");
        int[] below = Product.no(-4, LEAST, -1, 0, 1);
        int[] above = Product.no(-6, 7, MOST);
        Product.ofInts(Nets::empty, "points", (x, v) -> x.points(v[0]))
            .argument(Product.good(2, 3, 4, 5, 6), below, above).inOrder(-4, -6);
        Product.ofInts(Nets::rich, "points", (x, v) -> x.points(v[0]))
            .argument(Product.good(2, 6), below, above).inOrder(-4, -6);
        Product.ofInts(Nets::full, "points", (x, v) -> x.points(v[0]))
            .argument(Product.good(2, 6), below, above).inOrder(-4, -6);
    }

    private static void way() {
        Due.sentence(5, "A WAY more (KIND 0, FIGURE 0): its number.");
        WalkTimes x = new WalkTimes();
        for (int k = 0; k < 10; k++) {
            Due.is("WAY " + k, x.way(k % 4, (k + 1) % 4, 1 + k % 9, 9 - k % 9), k);
            int[] want = {k % 4, (k + 1) % 4, 0, 0, 1 + k % 9, 9 - k % 9, 1 + k % 9, 9 - k % 9};
            for (int what = 0; what <= 7; what++) {
                Due.is("of(" + k + ", " + what + ")", x.of(k, what), want[what]);
            }
        }
        // The place of one that is gone may have been of another KIND.
        WalkTimes y = Nets.of(4, Nets.way(0, 1, 9, 9, 4, 9), Nets.way(0, 1, 9, 9, 3, 8));
        y.lose(1);
        y.lose(0);
        Due.is("a WAY behind two that are gone", y.way(2, 3, 5, 6), 0);
        Due.is("one more", y.way(3, 2, 7, 8), 1);
        Due.said("they are of KIND 0, FIGURE 0", Due.state(y), "4 2 0 0 12 3 ; 2 3 0 0 5 6 5 6 ; 3 2 0 0 7 8 7 8 ");
    }

    private static void wayRefused() {
        Due.sentence(5, "-1 either (one twice, too); -4 (LOAD, LENGTH below 1); -6 (9; 10 are there, too).");
        int[] noPoint = Product.no(-1, LEAST, -1, 5, MOST);
        int[] below = Product.no(-4, LEAST, -1, 0);
        int[] above = Product.no(-6, 10, MOST);
        Product.ofInts(Nets::rich, "way", (x, v) -> x.way(v[0], v[1], v[2], v[3]))
            .argument(Product.good(0, 4), noPoint)
            .argument(Product.good(2), noPoint)
            .argument(Product.good(1, 9), below, above)
            .argument(Product.good(1, 9), below, above).inOrder(-1, -4, -6);
        for (int a = 0; a < 5; a++) {
            int p = a;
            Product.ofInts(Nets::rich, "way of " + a + " twice", (x, v) -> x.way(p, p, v[0], v[1]))
                .argument(Product.no(-1, 0, 1, 9, 10)).argument(Product.no(-1, 0, 1, 9, 10)).inOrder(-1);
        }
        Product.ofInts(Nets::full, "way when 10 are there", (x, v) -> x.way(v[0], v[1], v[2], v[3]))
            .argument(Product.no(-6, 0, 5), Product.no(-1, -1, 6))
            .argument(Product.no(-6, 2), Product.no(-1, -1, 6))
            .argument(Product.no(-6, 1, 9, 10), Product.no(-4, 0))
            .argument(Product.no(-6, 1, 9, 10), Product.no(-4, 0)).inOrder(-1, -4, -6);
        Bound.refuses(Nets::full, "way(3, 3, 1, 1) when 10 are there", -1, x -> x.way(3, 3, 1, 1));
        Bound.takes(PointsAndWaysBoundsTest::nineWays, "way when 9 are there", 9, x -> x.way(0, 5, 9, 9));
    }

    private static WalkTimes nineWays() {
        WalkTimes x = Nets.full();
        x.lose(4);
        return x;
    }

    private static void waysThereAre() {
        Due.sentence(0, "WAYS 0 .. as they come (10 at most), each between two unlike POINTS"
            + " (several may be between the same), of a KIND with a FIGURE (0 .. 9), LOAD (1 .. 9), LENGTH (1 .. 9).");
        WalkTimes x = Nets.of(2);
        for (int k = 0; k < 10; k++) {
            Due.is("WAY " + k + " between the same", x.way(k % 2, 1 - k % 2, 1, 1), k);
        }
        Due.is("an eleventh", x.way(0, 1, 1, 1), -6);
        Due.is("WAYS", x.count(1), 10);
        Due.is("one POINT twice", Nets.of(2).way(1, 1, 1, 1), -1);
        for (int v = -1; v <= 11; v++) {
            int n = v;
            int due = v < 1 ? -4 : v > 9 ? -6 : 0;
            Due.is("LOAD " + v, Nets.of(2).way(0, 1, n, 5), due);
            Due.is("LENGTH " + v, Nets.of(2).way(0, 1, 5, n), due);
            int figure = v < 0 ? -4 : v > 9 ? -6 : 0;
            Due.is("FIGURE " + v, Nets.plain(2, 1).kind(0, 0, n), figure);
        }
    }

    private static void kind() {
        Due.sentence(6, "KIND, FIGURE become others: 10 times the KIND and the FIGURE it had.");
        for (int kind = 0; kind <= 5; kind++) {
            for (int figure = 0; figure <= 9; figure++) {
                WalkTimes x = Nets.plain(3, 1, 12);
                Due.is("kind(1, " + kind + ", " + figure + ")", x.kind(1, kind, figure), 0);
                Due.is("KIND", x.of(1, 2), kind);
                Due.is("FIGURE", x.of(1, 3), figure);
                Due.is("kind(1, 5, 9)", x.kind(1, 5, 9), 10 * kind + figure);
                Due.is("the other one's", x.kind(0, 5, 9), 0);
            }
        }
        Due.sentence(6, "-1; -2; -4; -6 9.");
        int[] noKind = Product.no(-2, LEAST, -1, 6, MOST);
        int[] below = Product.no(-4, LEAST, -1);
        int[] above = Product.no(-6, 10, MOST);
        Product.ofInts(Nets::rich, "kind", (x, v) -> x.kind(v[0], v[1], v[2]))
            .argument(Product.good(0, 3), Product.no(-1, LEAST, -1, 4, MOST))
            .argument(Product.good(0, 5), noKind)
            .argument(Product.good(0, 9), below, above).inOrder(-1, -2, -4, -6);
        Product.ofInts(Nets::full, "kind", (x, v) -> x.kind(v[0], v[1], v[2]))
            .argument(Product.good(9), Product.no(-1, -1, 10))
            .argument(Product.good(3), Product.no(-2, -1, 6))
            .argument(Product.good(0, 9), below, above).inOrder(-1, -2, -4, -6);
        Bound.refuses(Nets::empty, "kind(0, 0, 0) without WAYS", -1, x -> x.kind(0, 0, 0));
    }

    private static void load() {
        Due.sentence(7, "LOAD becomes v: what it was.");
        for (int had = 1; had <= 9; had++) {
            for (int v = 1; v <= 9; v++) {
                WalkTimes x = Nets.of(3, Nets.way(0, 1, 3, 4), Nets.way(1, 2, had, 5));
                Due.is("load(1, " + v + ")", x.load(1, v), had);
                Due.is("LOAD", x.of(1, 4), v);
                Due.is("LENGTH stays", x.of(1, 5), 5);
                Due.is("the other one's", x.of(0, 4), 3);
            }
        }
        Due.sentence(7, "-1; -4 (below 1); -6 9.");
        Product.ofInts(Nets::rich, "load", (x, v) -> x.load(v[0], v[1]))
            .argument(Product.good(0, 3), Product.no(-1, LEAST, -1, 4, MOST))
            .argument(Product.good(1, 9), Product.no(-4, LEAST, -1, 0), Product.no(-6, 10, MOST)).inOrder(-1, -4, -6);
        Product.ofInts(Nets::full, "load", (x, v) -> x.load(v[0], v[1]))
            .argument(Product.good(9), Product.no(-1, 10))
            .argument(Product.good(1, 9), Product.no(-4, 0), Product.no(-6, 10)).inOrder(-1, -4, -6);
        Bound.refuses(Nets::empty, "load(0, 1) without WAYS", -1, x -> x.load(0, 1));
    }

    private static void length() {
        Due.sentence(8, "LENGTH becomes v: what it was.");
        for (int had = 1; had <= 9; had++) {
            for (int v = 1; v <= 9; v++) {
                WalkTimes x = Nets.of(3, Nets.way(0, 1, 3, 4), Nets.way(1, 2, 5, had));
                Due.is("length(1, " + v + ")", x.length(1, v), had);
                Due.is("LENGTH", x.of(1, 5), v);
                Due.is("LOAD stays", x.of(1, 4), 5);
                Due.is("the other one's", x.of(0, 5), 4);
            }
        }
        Due.sentence(8, "-1; -4 (below 1); -6 9.");
        Product.ofInts(Nets::rich, "length", (x, v) -> x.length(v[0], v[1]))
            .argument(Product.good(0, 3), Product.no(-1, LEAST, -1, 4, MOST))
            .argument(Product.good(1, 9), Product.no(-4, LEAST, -1, 0), Product.no(-6, 10, MOST)).inOrder(-1, -4, -6);
        Product.ofInts(Nets::full, "length", (x, v) -> x.length(v[0], v[1]))
            .argument(Product.good(9), Product.no(-1, 10))
            .argument(Product.good(1, 9), Product.no(-4, 0), Product.no(-6, 10)).inOrder(-1, -4, -6);
        Bound.refuses(Nets::empty, "length(0, 1) without WAYS", -1, x -> x.length(0, 1));
    }

    private static void lose() {
        Due.sentence(9, "A WAY is gone: how many there are.");
        for (int gone = 0; gone < 10; gone++) {
            WalkTimes x = Nets.tenWays();
            String[] ways = kept(x, 6).split("; ");
            Due.is("lose(" + gone + ") of ten", x.lose(gone), 9);
            ways[gone] = "";
            Due.said("WAYS behind lose(" + gone + ")", kept(x, 6).replace("; ", ""), String.join("", ways));
            for (int left = 8; left >= 0; left--) {
                Due.is("lose(" + left + "), the last one", x.lose(left), left);
            }
            Due.said("behind the last", Due.state(x), "6 0 0 0 0 6 ");
        }
        Due.sentence(9, "-1.");
        Product.ofInts(Nets::rich, "lose", (x, v) -> x.lose(v[0]))
            .argument(Product.good(0, 3), Product.no(-1, LEAST, -1, 4, MOST)).inOrder(-1);
        Product.ofInts(Nets::full, "lose", (x, v) -> x.lose(v[0]))
            .argument(Product.good(0, 9), Product.no(-1, LEAST, -1, 10, MOST)).inOrder(-1);
        Product.ofInts(Nets::empty, "lose without WAYS", (x, v) -> x.lose(v[0]))
            .argument(Product.no(-1, LEAST, -1, 0, 1, MOST)).inOrder(-1);
    }

    private static void of() {
        Due.sentence(10, "Of a WAY: 0 its first end, 1 its second, 2 KIND, 3 FIGURE, 4 LOAD, 5 LENGTH,"
            + " 6 WEIGHT, 7 MINUTES.");
        int[][] want = {{0, 1, 5, 4, 3, 2, 3, 6}, {1, 2, 3, 2, 2, 7, 2, 4}, {2, 0, 4, 1, 5, 3, 4, 4},
            {4, 3, 1, 3, 8, 9, 4, 9}};
        for (int way = 0; way < want.length; way++) {
            for (int what = 0; what <= 7; what++) {
                int w = way;
                int t = what;
                Bound.asks(Nets::rich, "of(" + way + ", " + what + ")", want[way][what], x -> x.of(w, t));
            }
        }
        Due.is("of(9, 5) of ten", Nets.tenWays().of(9, 5), 9);
        Due.sentence(10, "-1; -2.");
        Product.ofInts(Nets::rich, "of", (x, v) -> x.of(v[0], v[1]))
            .argument(Product.good(0, 3), Product.no(-1, LEAST, -1, 4, MOST))
            .argument(Product.good(0, 7), Product.no(-2, LEAST, -1, 8, MOST)).inOrder(-1, -2);
        Product.ofInts(Nets::full, "of", (x, v) -> x.of(v[0], v[1]))
            .argument(Product.good(0, 9), Product.no(-1, -1, 10))
            .argument(Product.good(0, 7), Product.no(-2, -1, 8)).inOrder(-1, -2);
        Bound.refuses(Nets::empty, "of(0, 8) without WAYS", -1, x -> x.of(0, 8));
    }

    private static void reaches() {
        Due.sentence(11, "POINTS (bits) that a POINT REACHES (itself, too).");
        int[] want = {0b00111, 0b00111, 0b00111, 0b11000, 0b11000};
        for (int a = 0; a < 5; a++) {
            int p = a;
            Bound.asks(Nets::rich, "reaches(" + a + ")", want[a], x -> x.reaches(p));
            Bound.asks(() -> Nets.of(6), "reaches(" + a + ") without WAYS", 1 << p, x -> x.reaches(p));
            Bound.asks(Nets::full, "reaches(" + a + ") of ten WAYS", 63, x -> x.reaches(p));
        }
        Due.sentence(0, "REACHES: one comes to a POINT from another one by WAYS (either way).");
        // Chains whose WAYS are told from either end and in either direction: all of six is reached.
        WalkTimes[] chains = {Nets.plain(6, 1, 12, 23, 34, 45), Nets.plain(6, 45, 34, 23, 12, 1),
            Nets.plain(6, 54, 43, 32, 21, 10), Nets.plain(6, 10, 32, 54, 21, 43), Nets.plain(6, 34, 1, 23, 54, 12)};
        for (WalkTimes x : chains) {
            for (int a = 0; a < 6; a++) {
                Due.is("reaches(" + a + ") along a chain", x.reaches(a), 63);
            }
            x.lose(2);
            Due.is("two sets when one WAY is gone", x.count(5), 2);
        }
        Due.sentence(11, "-1.");
        Product.ofInts(Nets::rich, "reaches", (x, v) -> x.reaches(v[0]))
            .argument(Product.good(0, 4), Product.no(-1, LEAST, -1, 5, 31, 32, MOST)).inOrder(-1);
        Product.ofInts(Nets::full, "reaches", (x, v) -> x.reaches(v[0]))
            .argument(Product.good(0, 5), Product.no(-1, LEAST, -1, 6, 32, MOST)).inOrder(-1);
    }

    private static int of(int kind, int figure, int load, int length, int what) {
        return Nets.of(2, Nets.way(0, 1, load, length, kind, figure)).of(0, what);
    }

    /** WEIGHTS of a KIND by LOAD 1 .. 9, whatever FIGURE is. */
    private static void weights(int kind, int... want) {
        for (int figure = 0; figure <= 9; figure++) {
            for (int load = 1; load <= 9; load++) {
                Due.is("WEIGHT of KIND " + kind + ", FIGURE " + figure + ", LOAD " + load,
                    of(kind, figure, load, 7, 6), want[load - 1]);
            }
        }
    }

    private static void weights() {
        Due.sentence(0, "WEIGHT: LOAD;");
        weights(0, 1, 2, 3, 4, 5, 6, 7, 8, 9);
        Due.sentence(0, "of STILES half of it, rounded up;");
        weights(1, 1, 1, 2, 2, 3, 3, 4, 4, 5);
        Due.sentence(0, "of ROADS twice LOAD;");
        weights(2, 2, 4, 6, 8, 10, 12, 14, 16, 18);
        Due.sentence(0, "of TOLLS as of ROADS, FIGURE less, but 1 at least;");
        int[][] tolls = {{2, 4, 6, 8, 10, 12, 14, 16, 18}, {1, 3, 5, 7, 9, 11, 13, 15, 17},
            {1, 2, 4, 6, 8, 10, 12, 14, 16}, {1, 1, 3, 5, 7, 9, 11, 13, 15}, {1, 1, 2, 4, 6, 8, 10, 12, 14},
            {1, 1, 1, 3, 5, 7, 9, 11, 13}, {1, 1, 1, 2, 4, 6, 8, 10, 12}, {1, 1, 1, 1, 3, 5, 7, 9, 11},
            {1, 1, 1, 1, 2, 4, 6, 8, 10}, {1, 1, 1, 1, 1, 3, 5, 7, 9}};
        for (int figure = 0; figure <= 9; figure++) {
            for (int load = 1; load <= 9; load++) {
                Due.is("WEIGHT of a TOLL of " + figure + ", LOAD " + load,
                    of(3, figure, load, 7, 6), tolls[figure][load - 1]);
            }
        }
        Due.sentence(0, "of GATES 1 more than of STILES;");
        weights(4, 2, 2, 3, 3, 4, 4, 5, 5, 6);
        Due.sentence(0, "of FORDS LOAD.");
        weights(5, 1, 2, 3, 4, 5, 6, 7, 8, 9);
    }

    /** MINUTES of a KIND by LENGTH 1 .. 9 with FIGURE 0, and how many more they are by each of FIGURE. */
    private static void minutes(int kind, int more, int... want) {
        for (int figure = 0; figure <= 9; figure++) {
            for (int length = 1; length <= 9; length++) {
                Due.is("MINUTES of KIND " + kind + ", FIGURE " + figure + ", LENGTH " + length,
                    of(kind, figure, 7, length, 7), want[length - 1] + more * figure);
            }
        }
    }

    private static void minutes() {
        Due.sentence(0, "MINUTES: LENGTH;");
        minutes(0, 0, 1, 2, 3, 4, 5, 6, 7, 8, 9);
        minutes(1, 0, 1, 2, 3, 4, 5, 6, 7, 8, 9);
        Due.sentence(0, "of FORDS FIGURE more;");
        minutes(5, 1, 1, 2, 3, 4, 5, 6, 7, 8, 9);
        Due.sentence(0, "of GATES FIGURE more;");
        minutes(4, 1, 1, 2, 3, 4, 5, 6, 7, 8, 9);
        Due.sentence(0, "of ROADS and TOLLS half of it, rounded up.");
        minutes(2, 0, 1, 1, 2, 2, 3, 3, 4, 4, 5);
        minutes(3, 0, 1, 1, 2, 2, 3, 3, 4, 4, 5);
    }

    private static void kinds() {
        Due.sentence(0, "KINDS: 0 WAY; 1 STILE under WAY; 2 ROAD under WAY; 3 TOLL under ROAD; 4 GATE under STILE;"
            + " 5 FORD under WAY.");
        // Which KINDS a SLOT made for each of them takes, by bits.
        int[] under = {0b111111, 0b010010, 0b001100, 0b001000, 0b010000, 0b100000};
        for (int made = 0; made <= 5; made++) {
            for (int kind = 0; kind <= 5; kind++) {
                WalkTimes x = Nets.of(2, Nets.way(0, 1, 1, 1, kind, 0));
                x.slot(0, made, 1);
                int due = (under[made] >> kind & 1) == 1 ? 1 : -16;
                Due.is("KIND " + kind + " in a SLOT for " + made, x.slots(0, 0, 0), due);
            }
        }
        Due.is("no KIND -1", Nets.plain(2, 1).kind(0, -1, 0), -2);
        Due.is("no KIND 6", Nets.plain(2, 1).kind(0, 6, 0), -2);
    }
}
