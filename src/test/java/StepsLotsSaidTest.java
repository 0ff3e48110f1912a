import java.util.function.Supplier;

/** Promises 26 to 28: BY STEPS, by LOT, what is SAID. */
public final class StepsLotsSaidTest {
    public static void main(String[] args) {
        bySteps();
        byStepsInOrder();
        lots();
        lotsByHand();
        says();
        refusals();
        Due.end("StepsLotsSaidTest");
    }

    private static void spread(WalkTimes x, int a, int b, int n, double want) {
        Due.is("bySteps(" + a + ", " + b + ", " + n + ", 0)",
            x.bySteps(a, b, n, 0), Double.doubleToLongBits(want));
        Due.is("bySteps(" + a + ", " + b + ", " + n + ", 1)",
            x.bySteps(a, b, n, 1), (int) (want * 1000000.0));
    }

    private static void bySteps() {
        WalkTimes x = new WalkTimes();
        spread(x, 0, 0, 0, 1.0);
        spread(x, 0, 1, 0, 0.0);
        spread(x, 0, 0, 30, 1.0);
        spread(x, 0, 1, 30, 0.0);
        spread(x, 2, 2, 29, 1.0);
        x.way(0, 1, 1, 1);
        spread(x, 0, 0, 1, 0.0);
        spread(x, 0, 1, 1, 1.0);
        spread(x, 0, 0, 30, 1.0);
        spread(x, 3, 3, 30, 1.0);
        x.way(0, 2, 2, 9);
        spread(x, 0, 1, 1, 1.0 / 3.0);
        spread(x, 0, 2, 1, 2.0 / 3.0);
        spread(x, 1, 1, 2, 1.0 / 3.0);
        // A TOLL of WEIGHT 2 * 2 - 3.
        x.kind(1, 3, 3);
        spread(x, 0, 2, 1, 0.5);
        Due.is("bySteps cut", x.bySteps(0, 2, 1, 1), 500000);
    }

    /** Each of the WAYS adds by itself, by numbers, first times WEIGHT, then by the WEIGHTS together. */
    private static void byStepsInOrder() {
        WalkTimes x = new WalkTimes();
        x.points(3);
        int[][] ways = {{0, 1, 7}, {1, 2, 3}, {2, 0, 5}, {1, 0, 9}, {2, 1, 1}};
        for (int[] way : ways) {
            x.way(way[0], way[1], way[2], 4);
        }
        double[] now = {1.0, 0.0, 0.0};
        for (int n = 0; n <= 30; n++) {
            for (int b = 0; b < 3; b++) {
                spread(x, 0, b, n, now[b]);
            }
            double[] then = new double[3];
            for (int p = 0; p < 3; p++) {
                double all = 0;
                for (int[] way : ways) {
                    all += way[0] == p || way[1] == p ? way[2] : 0;
                }
                for (int[] way : ways) {
                    if (way[0] == p || way[1] == p) {
                        then[way[0] + way[1] - p] += now[p] * way[2] / all;
                    }
                }
            }
            now = then;
        }
    }

    private static void lots() {
        WalkTimes x = new WalkTimes();
        Due.is("lots without WAYS", x.lots(0, 1, 30, 5, 0), 0);
        Due.is("lots without WAYS", x.lots(0, 1, 30, 5, 1), 0);
        x.way(0, 1, 1, 7);
        Due.is("lots of one WAY", x.lots(0, 1, 30, 5, 0), 30);
        Due.is("lots of one WAY", x.lots(0, 1, 30, 5, 1), 210);
        Due.is("lots to where none comes", x.lots(0, 2, 30, 5, 0), 0);
        Due.is("lots to where none comes", x.lots(0, 2, 30, 5, 1), 0);
        Due.is("lots of one", x.lots(1, 0, 1, -5, 1), 7);
    }

    private static int seed = 0;

    private static int draw(int m) {
        long z = (seed * 1664525L + 1013904223L) & 0xffffffffL;
        seed = (int) z;
        return (int) ((z & 0x7fffffffL) / 256 % m);
    }

    /** A chain 0 - 1 - 2 of WEIGHTS 9 and 1: many WALKS take over 60 steps. */
    private static void lotsByHand() {
        WalkTimes x = new WalkTimes();
        x.way(1, 0, 9, 2);
        x.way(2, 1, 1, 3);
        int[] seeds = {0, 1, -1, 12345, Integer.MIN_VALUE, Integer.MAX_VALUE, 999999937};
        boolean someDoNot = false;
        for (int z : seeds) {
            for (int n = 1; n <= 30; n++) {
                seed = z;
                int came = 0;
                int minutes = 0;
                for (int k = 0; k < n; k++) {
                    int at = 0;
                    int took = 0;
                    for (int step = 0; step < 60 && at != 2; step++) {
                        if (at == 0) {
                            draw(9);
                            at = 1;
                            took += 2;
                        } else if (draw(10) < 9) {
                            at = 0;
                            took += 2;
                        } else {
                            at = 2;
                            took += 3;
                        }
                    }
                    came += at == 2 ? 1 : 0;
                    minutes += at == 2 ? took : 0;
                    someDoNot |= at != 2;
                }
                Due.is("lots(0, 2, " + n + ", " + z + ", 0)", x.lots(0, 2, n, z, 0), came);
                Due.is("lots(0, 2, " + n + ", " + z + ", 1)", x.lots(0, 2, n, z, 1), minutes);
            }
        }
        Due.is("some WALKS do not come", someDoNot ? 1 : 0, 1);
    }

    private static void says() {
        WalkTimes x = new WalkTimes();
        Due.said("said(0, 0)", Due.saidOf(x, 0, 0), "0 to 0: 0 there, 0 both ways");
        Due.said("said(0, 3)", Due.saidOf(x, 0, 3), "0 to 3: never");
        x.way(0, 1, 3, 2);
        x.kind(0, 5, 4);
        x.way(1, 2, 2, 7);
        x.kind(1, 3, 2);
        Due.said("said(0, 2)", Due.saidOf(x, 0, 2), "0 to 2: 28 there, 130/3 both ways");
        Due.said("said(2, 0)", Due.saidOf(x, 2, 0), "2 to 0: 46/3 there, 130/3 both ways");
        Due.said("said(1, 1)", Due.saidOf(x, 1, 1), "1 to 1: 0 there, 0 both ways");
        Due.said("said(2, 3)", Due.saidOf(x, 2, 3), "2 to 3: never");
        Due.is("says(0, 2, -1)", x.says(0, 2, -1), 33);
        Due.is("says(0, 2, 0)", x.says(0, 2, 0), '0');
        Due.is("says(0, 2, 32)", x.says(0, 2, 32), 's');
        Due.refuses(x, "says(0, 2, 33)", -1, () -> x.says(0, 2, 33));
        x.points(6);
        x.way(4, 5, 1, 9);
        x.way(5, 4, 1, 1);
        Due.said("said(5, 4)", Due.saidOf(x, 5, 4), "5 to 4: 5 there, 10 both ways");
        x.way(5, 4, 1, 1);
        Due.said("said(5, 4)", Due.saidOf(x, 5, 4), "5 to 4: 11/3 there, 22/3 both ways");
    }

    private static void refusals() {
        Supplier<WalkTimes> one = () -> Nets.plain(4, 1);
        Bound.refusesLong(one, "bySteps(4, 0, -1, 2)", -1, x -> x.bySteps(4, 0, -1, 2));
        Bound.refusesLong(one, "bySteps(0, -1, 31, 2)", -1, x -> x.bySteps(0, -1, 31, 2));
        Bound.refusesLong(one, "bySteps(0, 1, -1, 2)", -4, x -> x.bySteps(0, 1, -1, 2));
        Bound.refusesLong(one, "bySteps(0, 1, 31, 2)", -6, x -> x.bySteps(0, 1, 31, 2));
        Bound.refusesLong(one, "bySteps(0, 1, 30, 2)", -2, x -> x.bySteps(0, 1, 30, 2));
        Bound.refusesLong(one, "bySteps(0, 1, 0, -1)", -2, x -> x.bySteps(0, 1, 0, -1));
        Bound.refuses(one, "lots(4, 0, 0, 1, 2)", -1, x -> x.lots(4, 0, 0, 1, 2));
        Bound.refuses(one, "lots(0, -1, 31, 1, 2)", -1, x -> x.lots(0, -1, 31, 1, 2));
        Bound.refuses(one, "lots(1, 1, 0, 1, 2)", -1, x -> x.lots(1, 1, 0, 1, 2));
        Bound.refuses(one, "lots(0, 1, 0, 1, 2)", -4, x -> x.lots(0, 1, 0, 1, 2));
        Bound.refuses(one, "lots(0, 1, 31, 1, 2)", -6, x -> x.lots(0, 1, 31, 1, 2));
        Bound.refuses(one, "lots(0, 1, 30, 1, 2)", -2, x -> x.lots(0, 1, 30, 1, 2));
        Bound.refuses(one, "lots(0, 1, 1, 1, -1)", -2, x -> x.lots(0, 1, 1, 1, -1));
        Bound.refuses(one, "says(4, 0, 0)", -1, x -> x.says(4, 0, 0));
        Bound.refuses(one, "says(0, -1, -1)", -1, x -> x.says(0, -1, -1));
        Bound.refuses(one, "says(0, 1, -2)", -1, x -> x.says(0, 1, -2));
        Bound.refuses(one, "says(0, 1, 999)", -1, x -> x.says(0, 1, 999));
    }
}
