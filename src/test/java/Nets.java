/** Objects in told states, made anew for every call at a bound. */
final class Nets {
    /** Ten roads of the greatest WEIGHT among six POINTS, most of them round four. */
    static final int[][] GREATEST = {{2, 1}, {4, 2}, {1, 4}, {1, 3}, {3, 2}, {3, 5}, {3, 4}, {4, 0}, {2, 5}, {1, 5}};

    private Nets() {
    }

    /** So many POINTS, and WAYS as told: both ends, LOAD, LENGTH, then, if told, KIND and FIGURE. */
    static WalkTimes of(int points, int[]... ways) {
        WalkTimes x = new WalkTimes();
        x.points(points);
        for (int k = 0; k < ways.length; k++) {
            int[] way = ways[k];
            x.way(way[0], way[1], way[2], way[3]);
            if (way.length > 4) {
                x.kind(k, way[4], way[5]);
            }
        }
        return x;
    }

    /** The same net when one WAY more was there and is gone: nothing of it may be left. */
    static WalkTimes lost(WalkTimes x) {
        x.lose(x.way(0, 1, 9, 9));
        return x;
    }

    static int[] way(int... numbers) {
        return numbers;
    }

    /** WAYS of LOAD 1, LENGTH 1, each told by both ends: 12 from 1 to 2. */
    static WalkTimes plain(int points, int... ends) {
        WalkTimes x = new WalkTimes();
        x.points(points);
        for (int end : ends) {
            x.way(end / 10, end % 10, 1, 1);
        }
        return x;
    }

    static WalkTimes empty() {
        return new WalkTimes();
    }

    /**
     * Something of all there is: 0 - 1 - 2 in a ring, 3 - 4 apart, letters, a ROW, LISTS and SLOTS
     * (of each one with something, one missing, one of no places), an IMAGE that is otherwise, and
     * each of the REFUSALS counted another number of times.
     */
    static WalkTimes rich() {
        WalkTimes x = of(5, way(0, 1, 3, 2, 5, 4), way(1, 2, 2, 7, 3, 2), way(2, 0, 5, 3, 4, 1), way(4, 3, 9, 9));
        x.image();
        x.load(3, 8);
        x.kind(3, 1, 3);
        letters(x, "lose 0;way 0 4 1 1;");
        row(x, 1, 1, 2);
        x.list(0, 3);
        x.put(0, 1, -7);
        x.put(0, 2, Long.MIN_VALUE);
        x.list(2, 0);
        x.slot(0, 2, 2);
        x.slots(0, 1, 1);
        x.slot(2, 4, 0);
        x.lose(-1);
        x.of(0, 8);
        x.of(0, 9);
        x.time(0, 4, 0);
        x.row(-1);
        x.row(-1);
        x.row(-1);
        x.row(100);
        return x;
    }

    /** Nothing more has room: 6 POINTS, 10 WAYS, 120 letters, a ROW of 10, a LIST of 20, a SLOT of 9. */
    static WalkTimes full() {
        WalkTimes x = tenWays();
        x.image();
        letters(x, "lose 9;".repeat(10) + "way 0 1 1 1;".repeat(4) + "wa");
        row(x, 1, 2, 3, 4, 5, 6, 7, 8, 9, 10);
        x.list(0, 20);
        for (int i = 0; i < 20; i++) {
            x.put(0, i, i + 1);
        }
        x.slot(0, 0, 9);
        for (int i = 0; i < 9; i++) {
            x.slots(0, i, i);
        }
        return x;
    }

    /** 6 POINTS, 10 WAYS of all KINDS; 0 to 9 bears LENGTH and LOAD 1, 2, .. 9, 9. */
    static WalkTimes tenWays() {
        WalkTimes x = new WalkTimes();
        x.points(6);
        int[] ends = {1, 50, 24, 42, 30, 3, 12, 10, 45, 34};
        for (int k = 0; k < ends.length; k++) {
            x.way(ends[k] / 10, ends[k] % 10, Math.min(9, k + 1), Math.min(9, k + 1));
            x.kind(k, k % 6, 9 - k);
        }
        return x;
    }

    static void letters(WalkTimes x, String text) {
        for (int k = 0; k < text.length(); k++) {
            x.letter(text.charAt(k));
        }
    }

    static void row(WalkTimes x, int... numbers) {
        for (int v : numbers) {
            x.row(v);
        }
    }
}
