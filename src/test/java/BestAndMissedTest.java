import java.util.function.Supplier;

/** Promises 19 to 25: ADDED, MISSED, BRIDGES, FARTHEST, MIDDLE, SURE, FAST. */
public final class BestAndMissedTest {
    public static void main(String[] args) {
        added();
        addedWhenTenAreThere();
        missed();
        bridges();
        farthest();
        middle();
        sure();
        sureOfMoreThanSix();
        fast();
        refusals();
        Due.end("BestAndMissedTest");
    }

    private static void added() {
        WalkTimes x = new WalkTimes();
        // Without WAYS only the one between both makes it.
        Due.is("added(0, 3) without WAYS", x.added(0, 3), 3);
        Due.is("added(3, 1) without WAYS", x.added(3, 1), 13);
        x.way(0, 1, 1, 1);
        // TIME from 0 to 1 is 1 as it is and can't be less.
        Due.is("added(0, 1)", x.added(0, 1), -9);
        Due.is("added(1, 0)", x.added(1, 0), -9);
        Due.is("WAYS there", x.count(1), 1);
        // A long WAY: one of LENGTH 1 between the same halves what is over 1.
        WalkTimes y = new WalkTimes();
        y.points(2);
        y.way(0, 1, 1, 9);
        Due.is("added between two that have one", y.added(0, 1), 1);
        // From 2 to 3/2 with one of LENGTH 1; one of LENGTH 2 would change nothing.
        y.length(0, 2);
        Due.is("added to one of LENGTH 2", y.added(0, 1), 1);
        y.length(0, 1);
        Due.is("added to one of LENGTH 1", y.added(0, 1), -9);
        // 0 - 1 - 2 - 3, all 1: TIME 9 from 0 to 3. With 0 - 3: 1/2 (1) + 1/2 (1 + h), from 1 on.
        WalkTimes z = new WalkTimes();
        z.way(0, 1, 1, 1);
        z.way(1, 2, 1, 1);
        z.way(2, 3, 1, 1);
        Due.is("added(0, 3) along a chain", z.added(0, 3), 3);
        Due.is("added(0, 2) along a chain", z.added(0, 2), 2);
        // None as it is: 0 - 1, 2 - 3 apart; to come from 0 to 2: 0 - 2 takes
        // t0 = 1/2 (1) + 1/2 (1 + 1 + t0), t0 = 3; 1 - 2 takes 4; all others more or none.
        WalkTimes w = new WalkTimes();
        w.way(0, 1, 1, 1);
        w.way(2, 3, 1, 1);
        Due.is("added(0, 2) of two apart", w.added(0, 2), 2);
        Due.is("added(1, 2) of two apart", w.added(1, 2), 12);
        Due.is("added(2, 1) of two apart", w.added(2, 1), 12);
    }

    /** The one that is tried needs a place of its own. */
    private static void addedWhenTenAreThere() {
        WalkTimes x = new WalkTimes();
        for (int k = 0; k < 10; k++) {
            x.way(0, 1, 1, 5);
        }
        String before = Due.state(x);
        Due.is("added(0, 1)", x.added(0, 1), 1);
        Due.is("added(2, 3)", x.added(2, 3), 23);
        Due.is("added(0, 2)", x.added(0, 2), 2);
        Due.said("the state", Due.state(x), before);
    }

    private static void missed() {
        WalkTimes x = new WalkTimes();
        Due.is("missed without WAYS", x.missed(0, 1), -9);
        x.way(2, 3, 1, 1);
        Due.is("missed, none as it is", x.missed(0, 1), 0);
        x.way(2, 3, 1, 1);
        Due.is("missed, none as it is, the first", x.missed(0, 1), 0);
        // Side by side WEIGHTS 1, 3, 2 between 0 and 1: without 3 RESISTANCE is most.
        WalkTimes y = new WalkTimes();
        y.way(0, 1, 1, 1);
        y.way(0, 1, 3, 1);
        y.way(1, 0, 2, 1);
        y.way(0, 1, 3, 1);
        Due.is("missed(0, 1)", y.missed(0, 1), 1);
        Due.is("missed(1, 0)", y.missed(1, 0), 1);
        // ROADS weigh twice as much.
        y.kind(2, 2, 0);
        Due.is("missed with a ROAD", y.missed(0, 1), 2);
        // Without WAY 4 there is none.
        y.way(1, 2, 9, 1);
        Due.is("missed(0, 2)", y.missed(0, 2), 4);
        // Equal ones: the first.
        WalkTimes z = new WalkTimes();
        z.way(2, 3, 9, 9);
        z.way(0, 1, 1, 1);
        z.way(0, 1, 1, 1);
        Due.is("missed, of several the first", z.missed(0, 1), 1);
    }

    private static void bridges() {
        WalkTimes x = new WalkTimes();
        x.way(0, 1, 1, 1);
        x.way(0, 1, 1, 1);
        x.way(1, 2, 1, 1);
        x.way(2, 3, 1, 1);
        Due.is("bridges(0, 3)", x.bridges(0, 3), 0b1100);
        Due.is("bridges(3, 0)", x.bridges(3, 0), 0b1100);
        Due.is("bridges(0, 1)", x.bridges(0, 1), 0);
        Due.is("bridges(1, 2)", x.bridges(1, 2), 0b0100);
        x.way(3, 1, 1, 1);
        Due.is("bridges(0, 3) in a ring", x.bridges(0, 3), 0);
        x.points(5);
        Due.refuses(x, "bridges(0, 4)", -3, () -> x.bridges(0, 4));
        WalkTimes y = new WalkTimes();
        y.way(0, 1, 1, 1);
        y.way(2, 3, 1, 1);
        Due.is("bridges(1, 0) of one WAY", y.bridges(1, 0), 0b0001);
    }

    private static void farthest() {
        WalkTimes x = new WalkTimes();
        Due.is("farthest(0) without WAYS", x.farthest(0), -9);
        x.way(0, 1, 1, 1);
        x.way(1, 2, 1, 1);
        Due.is("farthest(0)", x.farthest(0), 2);
        Due.is("farthest(1), both 3", x.farthest(1), 0);
        Due.is("farthest(2)", x.farthest(2), 0);
        Due.is("farthest(3)", x.farthest(3), -9);
        // From 1: to 0 t = 1/2 + 1/2 (2 * 9 + t), 19; to 2 t = 9/2 + 1/2 (2 + t), 11.
        x.length(1, 9);
        Due.is("farthest(1), 19 or 11", x.farthest(1), 0);
        x.length(1, 1);
        x.length(0, 9);
        Due.is("farthest(1), 11 or 19", x.farthest(1), 2);
    }

    private static void middle() {
        WalkTimes x = new WalkTimes();
        Due.is("middle() without WAYS", x.middle(), -9);
        x.points(3);
        x.way(0, 1, 1, 1);
        Due.is("middle(), 2 is apart", x.middle(), -9);
        x.way(1, 2, 1, 1);
        // From 0: 1 and 4; from 1: 3 and 3; from 2 as from 0.
        Due.is("middle() of a chain", x.middle(), 0);
        x.length(0, 9);
        x.lose(1);
        x.way(0, 2, 1, 1);
        // 2 - 0 - 1 of LENGTHS 1, 9. From 0: 19 (to 2) and 11 (to 1); from 1: 9 and 28; from 2: 1 and 12.
        Due.is("middle() of a chain with a long WAY", x.middle(), 2);
        x.lose(1);
        x.length(0, 1);
        x.way(1, 2, 1, 1);
        x.way(2, 0, 1, 1);
        Due.is("middle() of a ring, of several the least", x.middle(), 0);
        WalkTimes y = new WalkTimes();
        y.points(6);
        for (int k = 0; k < 5; k++) {
            y.way(5, k, 3, 4);
        }
        // Steps from 5 to another one: 9, so 45; from another one: 1, and 4 times 10.
        Due.is("middle() of a star", y.middle(), 0);
        // 3 is the hardest to come to and soonest left: best to be there from the first.
        y.load(3, 1);
        y.length(3, 1);
        Due.is("middle() of a star with one that is hard to come to", y.middle(), 3);
        y.points(5);
        Due.is("middle() when its WAYS are gone", y.middle(), -9);
    }

    private static void sure(WalkTimes x, int a, int b, int t, long above, long below) {
        Due.fraction("sure(" + a + ", " + b + ", " + t + ")",
            x.sure(a, b, t, 0), x.sure(a, b, t, 1), above, below);
    }

    private static void sure() {
        WalkTimes x = new WalkTimes();
        sure(x, 0, 0, 2, 1, 1);
        sure(x, 0, 1, 2, 0, 1);
        x.way(0, 1, 1, 1);
        sure(x, 0, 1, 2, 1, 2);
        sure(x, 1, 0, 20, 19, 20);
        sure(x, 0, 2, 20, 0, 1);
        sure(x, 0, 0, 20, 1, 1);
        // One more beside it: 1 less 1/9.
        x.way(0, 1, 9, 9);
        sure(x, 0, 1, 3, 8, 9);
        // And one behind it: 8/9 times 2/3.
        x.way(1, 2, 1, 1);
        sure(x, 0, 2, 3, 16, 27);
        sure(x, 3, 3, 3, 1, 1);
    }

    private static void sureOfMoreThanSix() {
        WalkTimes x = new WalkTimes();
        for (int k = 0; k < 6; k++) {
            x.way(0, 1, 1, 1);
        }
        sure(x, 0, 1, 20, 63999999, 64000000);
        sure(x, 0, 1, 2, 63, 64);
        // A seventh is sure.
        x.way(0, 1, 1, 1);
        sure(x, 0, 1, 2, 1, 1);
        x.way(1, 2, 1, 1);
        sure(x, 0, 2, 2, 1, 1);
        WalkTimes y = new WalkTimes();
        for (int k = 0; k < 6; k++) {
            y.way(2, 3, 1, 1);
        }
        y.way(0, 1, 1, 1);
        sure(y, 0, 1, 20, 1, 1);
        sure(y, 3, 2, 2, 63, 64);
    }

    private static void fast(WalkTimes x, int a, int b, int t, int m, long above, long below) {
        Due.fraction("fast(" + a + ", " + b + ", " + t + ", " + m + ")",
            x.fast(a, b, t, m, 0), x.fast(a, b, t, m, 1), above, below);
    }

    private static void fast() {
        WalkTimes x = new WalkTimes();
        fast(x, 1, 1, 2, 0, 1, 1);
        fast(x, 1, 2, 2, 999, 0, 1);
        x.way(0, 1, 1, 3);
        fast(x, 0, 1, 4, 2, 0, 1);
        fast(x, 0, 1, 4, 3, 3, 4);
        fast(x, 0, 0, 4, 0, 1, 1);
        // TIME by both is 6 (3 and 9, as likely), 9 by the second alone.
        x.way(1, 0, 1, 9);
        fast(x, 0, 1, 4, 2, 0, 1);
        fast(x, 0, 1, 4, 3, 3, 16);
        fast(x, 0, 1, 4, 5, 3, 16);
        fast(x, 0, 1, 4, 6, 3, 4);
        fast(x, 0, 1, 4, 8, 3, 4);
        fast(x, 0, 1, 4, 9, 15, 16);
        fast(x, 0, 1, 4, 999, 15, 16);
        // A side way to 2 and back is lost time: t = 3 by itself, else 1/2 * 3 + 1/2 (2 + t), 5.
        WalkTimes y = new WalkTimes();
        y.way(0, 1, 1, 3);
        y.way(0, 2, 1, 1);
        fast(y, 0, 1, 2, 3, 1, 4);
        fast(y, 0, 1, 2, 4, 1, 4);
        fast(y, 0, 1, 2, 5, 1, 2);
        // TIME of 7/2 is not 3 or less, but 4 or less.
        WalkTimes z = new WalkTimes();
        z.way(0, 1, 1, 3);
        z.way(0, 1, 1, 4);
        fast(z, 0, 1, 2, 3, 1, 4);
        fast(z, 0, 1, 2, 4, 3, 4);
        // WAYS behind the first six are sure.
        for (int k = 0; k < 4; k++) {
            z.way(2, 3, 1, 9);
        }
        z.way(0, 1, 2, 9);
        // All three: 25/4; without the second: 7; without the first: 22/3; the last alone: 9.
        fast(z, 0, 1, 2, 6, 0, 1);
        fast(z, 0, 1, 2, 7, 1, 2);
        fast(z, 0, 1, 2, 8, 3, 4);
        fast(z, 0, 1, 2, 9, 1, 1);
    }

    private static void refusals() {
        Supplier<WalkTimes> one = () -> Nets.plain(4, 1);
        Bound.refuses(one, "added(4, 0)", -1, x -> x.added(4, 0));
        Bound.refuses(one, "added(0, -1)", -1, x -> x.added(0, -1));
        Bound.refuses(one, "added(1, 1)", -1, x -> x.added(1, 1));
        Bound.refuses(one, "missed(4, 0)", -1, x -> x.missed(4, 0));
        Bound.refuses(one, "missed(0, -1)", -1, x -> x.missed(0, -1));
        Bound.refuses(one, "missed(2, 2)", -1, x -> x.missed(2, 2));
        Bound.refuses(one, "bridges(4, 0)", -1, x -> x.bridges(4, 0));
        Bound.refuses(one, "bridges(0, -1)", -1, x -> x.bridges(0, -1));
        Bound.refuses(one, "bridges(2, 2)", -1, x -> x.bridges(2, 2));
        Bound.refuses(one, "bridges(0, 2)", -3, x -> x.bridges(0, 2));
        Bound.refuses(one, "farthest(4)", -1, x -> x.farthest(4));
        Bound.refuses(one, "farthest(-1)", -1, x -> x.farthest(-1));
        Bound.refusesLong(one, "sure(4, 0, 1, 2)", -1, x -> x.sure(4, 0, 1, 2));
        Bound.refusesLong(one, "sure(0, -1, 21, 2)", -1, x -> x.sure(0, -1, 21, 2));
        Bound.refusesLong(one, "sure(0, 1, 1, 2)", -4, x -> x.sure(0, 1, 1, 2));
        Bound.refusesLong(one, "sure(0, 1, 21, 2)", -6, x -> x.sure(0, 1, 21, 2));
        Bound.refusesLong(one, "sure(0, 1, 20, 2)", -2, x -> x.sure(0, 1, 20, 2));
        Bound.refusesLong(one, "fast(4, 0, 1, -1, 2)", -1, x -> x.fast(4, 0, 1, -1, 2));
        Bound.refusesLong(one, "fast(0, -1, 1, -1, 2)", -1, x -> x.fast(0, -1, 1, -1, 2));
        Bound.refusesLong(one, "fast(0, 1, 1, 1000, 2)", -4, x -> x.fast(0, 1, 1, 1000, 2));
        Bound.refusesLong(one, "fast(0, 1, 21, -1, 2)", -4, x -> x.fast(0, 1, 21, -1, 2));
        Bound.refusesLong(one, "fast(0, 1, 21, 0, 2)", -6, x -> x.fast(0, 1, 21, 0, 2));
        Bound.refusesLong(one, "fast(0, 1, 2, 1000, 2)", -6, x -> x.fast(0, 1, 2, 1000, 2));
        Bound.refusesLong(one, "fast(0, 1, 2, 999, -1)", -2, x -> x.fast(0, 1, 2, 999, -1));
    }
}
