import java.util.function.Supplier;

/** Promises 12 to 18: TIME, STEPS, COMMUTE, VISITS, RESISTANCE, AHEAD, FLOW. */
public final class TimesAndOddsTest {
    public static void main(String[] args) {
        chain();
        triangle();
        weightsAndMinutesCount();
        severalBetweenTheSame();
        apart();
        ahead();
        flow();
        greatest();
        refusals();
        Due.end("TimesAndOddsTest");
    }

    private static void time(WalkTimes x, int a, int b, long above, long below) {
        Due.fraction("time(" + a + ", " + b + ")", x.time(a, b, 0), x.time(a, b, 1), above, below);
    }

    private static void steps(WalkTimes x, int a, int b, long above, long below) {
        Due.fraction("steps(" + a + ", " + b + ")", x.steps(a, b, 0), x.steps(a, b, 1), above, below);
    }

    private static void commute(WalkTimes x, int a, int b, long above, long below) {
        Due.fraction("commute(" + a + ", " + b + ")", x.commute(a, b, 0), x.commute(a, b, 1), above, below);
    }

    private static void visits(WalkTimes x, int a, int b, int c, long above, long below) {
        Due.fraction("visits(" + a + ", " + b + ", " + c + ")",
            x.visits(a, b, c, 0), x.visits(a, b, c, 1), above, below);
    }

    private static void resistance(WalkTimes x, int a, int b, long above, long below) {
        Due.fraction("resistance(" + a + ", " + b + ")",
            x.resistance(a, b, 0), x.resistance(a, b, 1), above, below);
    }

    private static void ahead(WalkTimes x, int from, int goals, int one, long above, long below) {
        Due.fraction("ahead(" + from + ", " + goals + ", " + one + ")",
            x.ahead(from, goals, one, 0), x.ahead(from, goals, one, 1), above, below);
    }

    private static void flow(WalkTimes x, int way, int a, int b, long above, long below) {
        Due.fraction("flow(" + way + ", " + a + ", " + b + ")",
            x.flow(way, a, b, 0), x.flow(way, a, b, 1), above, below);
    }

    /** 0 - 1 - 2, all 1: from 0 to 2 it takes 4, from 1 to 2 it takes 3. */
    private static void chain() {
        WalkTimes x = new WalkTimes();
        x.way(0, 1, 1, 1);
        x.way(2, 1, 1, 1);
        time(x, 0, 2, 4, 1);
        time(x, 1, 2, 3, 1);
        time(x, 0, 1, 1, 1);
        time(x, 2, 2, 0, 1);
        steps(x, 0, 2, 4, 1);
        steps(x, 1, 1, 0, 1);
        commute(x, 0, 2, 8, 1);
        commute(x, 1, 0, 4, 1);
        commute(x, 1, 1, 0, 1);
        visits(x, 0, 2, 0, 2, 1);
        visits(x, 0, 2, 1, 2, 1);
        visits(x, 1, 2, 0, 1, 1);
        visits(x, 1, 2, 1, 2, 1);
        visits(x, 2, 2, 0, 0, 1);
        visits(x, 0, 1, 2, 0, 1);
        resistance(x, 0, 2, 2, 1);
        resistance(x, 1, 2, 1, 1);
        resistance(x, 0, 0, 0, 1);
    }

    /** All 1: TIME 2 between any two, RESISTANCE 2/3. */
    private static void triangle() {
        WalkTimes x = new WalkTimes();
        x.points(3);
        x.way(0, 1, 1, 1);
        x.way(1, 2, 1, 1);
        x.way(2, 0, 1, 1);
        for (int a = 0; a < 3; a++) {
            for (int b = 0; b < 3; b++) {
                time(x, a, b, a == b ? 0 : 2, 1);
                commute(x, a, b, a == b ? 0 : 4, 1);
                resistance(x, a, b, a == b ? 0 : 2, a == b ? 1 : 3);
            }
        }
        visits(x, 0, 1, 0, 4, 3);
        visits(x, 0, 1, 2, 2, 3);
        ahead(x, 0, 0b110, 2, 1, 2);
        flow(x, 0, 0, 1, 2, 3);
        flow(x, 0, 1, 0, -2, 3);
        flow(x, 1, 0, 1, -1, 3);
        flow(x, 2, 0, 1, -1, 3);
    }

    /** 0 - 1 a FORD (WEIGHT 3, MINUTES 2 + 4), 1 - 2 a TOLL (WEIGHT 2 * 2 - 2, MINUTES 4). */
    private static void weightsAndMinutesCount() {
        WalkTimes x = new WalkTimes();
        x.way(0, 1, 3, 2);
        x.kind(0, 5, 4);
        x.way(1, 2, 2, 7);
        x.kind(1, 3, 2);
        // From 1: 2/5 it is there (4), 3/5 back (6) and on from 0 (6): t = 8/5 + 3/5 (12 + t), t = 22.
        time(x, 1, 2, 22, 1);
        time(x, 0, 2, 28, 1);
        // From 1 to 0: t = 3/5 * 6 + 2/5 (8 + t), t = 34/3.
        time(x, 1, 0, 34, 3);
        time(x, 2, 0, 46, 3);
        commute(x, 2, 0, 130, 3);
        commute(x, 0, 2, 130, 3);
        // Steps: s = 1 + 3/5 (1 + s), s = 4; other way s = 1 + 2/5 (1 + s), s = 7/3.
        steps(x, 1, 2, 4, 1);
        steps(x, 1, 0, 7, 3);
        steps(x, 2, 0, 10, 3);
        resistance(x, 0, 2, 5, 6);
        visits(x, 1, 0, 1, 5, 3);
        visits(x, 1, 0, 2, 2, 3);
        ahead(x, 1, 0b101, 0, 3, 5);
        ahead(x, 1, 0b101, 2, 2, 5);
    }

    private static void severalBetweenTheSame() {
        WalkTimes x = new WalkTimes();
        x.points(2);
        x.way(0, 1, 1, 2);
        x.way(1, 0, 3, 9);
        // 1/4 of 2, 3/4 of 9.
        time(x, 0, 1, 29, 4);
        steps(x, 0, 1, 1, 1);
        commute(x, 0, 1, 29, 2);
        resistance(x, 0, 1, 1, 4);
        flow(x, 0, 0, 1, 1, 4);
        flow(x, 1, 0, 1, -3, 4);
        flow(x, 1, 1, 0, 3, 4);
        visits(x, 0, 1, 0, 1, 1);
    }

    private static void apart() {
        WalkTimes x = new WalkTimes();
        x.way(0, 1, 1, 1);
        x.way(2, 3, 1, 5);
        time(x, 0, 1, 1, 1);
        time(x, 3, 2, 5, 1);
        Due.refusesLong(x, "time(0, 2, 0)", -3, () -> x.time(0, 2, 0));
        Due.refusesLong(x, "steps(0, 2, 0)", -3, () -> x.steps(0, 2, 0));
        Due.refusesLong(x, "commute(0, 2, 0)", -3, () -> x.commute(0, 2, 0));
        Due.refusesLong(x, "visits(0, 2, 1, 0)", -3, () -> x.visits(0, 2, 1, 0));
        Due.refusesLong(x, "resistance(0, 2, 1)", -3, () -> x.resistance(0, 2, 1));
        Due.refusesLong(x, "flow(0, 0, 2, 1)", -3, () -> x.flow(0, 0, 2, 1));
        visits(x, 0, 1, 2, 0, 1);
        visits(x, 0, 0, 2, 0, 1);
        flow(x, 1, 0, 1, 0, 1);
        flow(x, 0, 3, 2, 0, 1);
        ahead(x, 0, 0b1010, 3, 0, 1);
        ahead(x, 0, 0b1010, 1, 1, 1);
        Due.refusesLong(x, "ahead(0, 12, 2, 0)", -3, () -> x.ahead(0, 12, 2, 0));
    }

    /** A star round 0 with WEIGHTS 1, 2, 3. */
    private static void ahead() {
        WalkTimes x = new WalkTimes();
        x.way(0, 1, 1, 1);
        x.way(0, 2, 2, 1);
        x.way(3, 0, 3, 1);
        ahead(x, 0, 0b1110, 1, 1, 6);
        ahead(x, 0, 0b1110, 2, 1, 3);
        ahead(x, 0, 0b1110, 3, 1, 2);
        ahead(x, 0, 0b0110, 1, 1, 3);
        ahead(x, 3, 0b0110, 2, 2, 3);
        ahead(x, 3, 0b0100, 2, 1, 1);
        ahead(x, 3, 0b1100, 3, 1, 1);
        ahead(x, 3, 0b1100, 2, 0, 1);
        ahead(x, 3, 0b0111, 2, 0, 1);
        ahead(x, 3, 0b0111, 0, 1, 1);
        WalkTimes alone = new WalkTimes();
        ahead(alone, 2, 0b0110, 2, 1, 1);
        ahead(alone, 2, 0b0110, 1, 0, 1);
    }

    /** Two wires side by side, of RESISTANCE 1 + 1 and 1: a third of it goes the longer one. */
    private static void flow() {
        WalkTimes x = new WalkTimes();
        x.way(0, 3, 1, 9);
        x.way(0, 1, 1, 9);
        x.way(3, 1, 1, 9);
        x.way(1, 2, 1, 9);
        flow(x, 0, 0, 3, 2, 3);
        flow(x, 1, 0, 3, 1, 3);
        flow(x, 2, 0, 3, -1, 3);
        flow(x, 3, 0, 3, 0, 1);
        flow(x, 3, 0, 2, 1, 1);
        flow(x, 3, 2, 0, -1, 1);
    }

    /** A chain of six with nothing but back ways of great WEIGHT: numbers are large and still exact. */
    private static void greatest() {
        WalkTimes x = new WalkTimes();
        x.points(6);
        x.way(0, 1, 9, 9);
        x.way(1, 2, 9, 9);
        x.way(2, 3, 9, 9);
        x.way(3, 4, 9, 9);
        x.way(4, 5, 1, 9);
        for (int k = 0; k < 4; k++) {
            x.kind(k, 5, 9);
        }
        // From 4: each try is 9 in 10 back; what each POINT's WAYS take, times WEIGHT, over 5's 1.
        // TIME from 0 to 5 is sum over POINTS of (w * m together) times RESISTANCE shared to 5.
        long[] due = {162, 324, 324, 324, 171};
        long above = 0;
        for (int k = 0; k < 5; k++) {
            above += due[k] * (9 + (4 - k));
        }
        time(x, 0, 5, above / 9, 1);
        Due.is("the sum is whole", above % 9, 0);
        resistance(x, 0, 5, 13, 9);
    }

    private static void refusals() {
        Supplier<WalkTimes> one = () -> Nets.plain(4, 1);
        Bound.refusesLong(one, "time(-1, 0, 2)", -1, x -> x.time(-1, 0, 2));
        Bound.refusesLong(one, "time(0, 4, 2)", -1, x -> x.time(0, 4, 2));
        Bound.refusesLong(one, "time(0, 2, 2)", -2, x -> x.time(0, 2, 2));
        Bound.refusesLong(one, "time(0, 1, -1)", -2, x -> x.time(0, 1, -1));
        Bound.refusesLong(one, "time(0, 2, 1)", -3, x -> x.time(0, 2, 1));
        Bound.refusesLong(one, "steps(4, 0, 2)", -1, x -> x.steps(4, 0, 2));
        Bound.refusesLong(one, "steps(0, 2, 2)", -2, x -> x.steps(0, 2, 2));
        Bound.refusesLong(one, "commute(0, -1, 2)", -1, x -> x.commute(0, -1, 2));
        Bound.refusesLong(one, "commute(0, 2, 2)", -2, x -> x.commute(0, 2, 2));
        Bound.refusesLong(one, "visits(4, 0, 1, 2)", -1, x -> x.visits(4, 0, 1, 2));
        Bound.refusesLong(one, "visits(0, 4, 1, 2)", -1, x -> x.visits(0, 4, 1, 2));
        Bound.refusesLong(one, "visits(0, 1, 4, 2)", -1, x -> x.visits(0, 1, 4, 2));
        Bound.refusesLong(one, "visits(0, 1, 1, 2)", -1, x -> x.visits(0, 1, 1, 2));
        Bound.refusesLong(one, "visits(0, 2, 1, 2)", -2, x -> x.visits(0, 2, 1, 2));
        Bound.refusesLong(one, "resistance(0, 4, 2)", -1, x -> x.resistance(0, 4, 2));
        Bound.refusesLong(one, "resistance(0, 2, 2)", -2, x -> x.resistance(0, 2, 2));
        Bound.refusesLong(one, "ahead(4, -1, 0, 2)", -1, x -> x.ahead(4, -1, 0, 2));
        Bound.refusesLong(one, "ahead(0, -1, 4, 2)", -1, x -> x.ahead(0, -1, 4, 2));
        Bound.refusesLong(one, "ahead(0, -1, 1, 2)", -4, x -> x.ahead(0, -1, 1, 2));
        Bound.refusesLong(one, "ahead(0, 16, 1, 2)", -6, x -> x.ahead(0, 16, 1, 2));
        Bound.refusesLong(one, "ahead(0, 8, 1, 2)", -2, x -> x.ahead(0, 8, 1, 2));
        Bound.refusesLong(one, "ahead(0, 8, 1, 0)", -3, x -> x.ahead(0, 8, 1, 0));
        Bound.refusesLong(one, "ahead(0, 8, 3, 0)", -3, x -> x.ahead(0, 8, 3, 0));
        Bound.refusesLong(one, "ahead(0, 0, 3, 0)", -3, x -> x.ahead(0, 0, 3, 0));
        Bound.refusesLong(one, "flow(1, 0, 1, 2)", -1, x -> x.flow(1, 0, 1, 2));
        Bound.refusesLong(one, "flow(-1, 0, 1, 2)", -1, x -> x.flow(-1, 0, 1, 2));
        Bound.refusesLong(one, "flow(0, 4, 1, 2)", -1, x -> x.flow(0, 4, 1, 2));
        Bound.refusesLong(one, "flow(0, 1, 1, 2)", -1, x -> x.flow(0, 1, 1, 2));
        Bound.refusesLong(one, "flow(0, 0, 2, 2)", -2, x -> x.flow(0, 0, 2, 2));
    }
}
