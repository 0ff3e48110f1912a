import java.lang.management.ManagementFactory;
import java.util.Random;

/**
 * All promises with any arguments in any state: no call throws, REFUSALS are answered by numbers that
 * the document knows and counted as it says, the same calls answer the same, and no call makes an
 * object (the room that all calls of a run share is small).
 */
public final class AnyArgumentsTest {
    private static final int CALLS = 42;
    private static final int[] ODD = {Integer.MIN_VALUE, Integer.MIN_VALUE + 1, -1000, -17, -3, -2, -1, 10, 11, 16,
        20, 21, 30, 31, 63, 64, 99, 100, 255, 256, 999, 1000, 1 << 20, Integer.MAX_VALUE - 1, Integer.MAX_VALUE};
    private static final long LONGS = 4000000000000000000L;
    private static final String OFTEN = "way 0 1 2 3;kind 0 3 1;load 0 1;lose 0;points 5;";

    public static void main(String[] args) {
        for (int run = 0; run < 3000; run++) {
            play(run);
        }
        noObjects();
        Due.end("AnyArgumentsTest");
    }

    private static void play(int run) {
        Random chance = new Random(run);
        Random again = new Random(run);
        WalkTimes x = new WalkTimes();
        WalkTimes y = new WalkTimes();
        int[] counts = new int[7];
        for (int k = 0; k < 380; k++) {
            int call = someCall(chance, k);
            long answer = call(x, call, chance);
            Due.is("call " + call + " made again", call(y, someCall(again, k), again), answer);
            int refusal = refusalOf(call, answer);
            if (refusal < 0 && refusal >= -6) {
                counts[-refusal]++;
            }
        }
        for (int k = 1; k <= 6; k++) {
            Due.is("count(" + (10 + k) + ") of run " + run, x.count(10 + k), counts[k]);
        }
        Due.is("POINTS of run " + run, x.count(0) >= 2 && x.count(0) <= 6 ? 1 : 0, 1);
        Due.is("WAYS of run " + run, x.count(1) >= 0 && x.count(1) <= 10 ? 1 : 0, 1);
    }

    /** Calls 10 to 16, 22 to 24 and 32 answer longs; tells (1) counts none. */
    private static int refusalOf(int call, long answer) {
        boolean ofLongs = call >= 10 && call <= 16 || call >= 22 && call <= 24 || call == 32;
        if (ofLongs) {
            long number = answer - LONGS;
            return number >= 1 && number <= 6 ? (int) -number : 0;
        }
        return call == 1 ? 0 : (int) answer;
    }

    private static int n(Random chance, int most) {
        return chance.nextInt(24) == 0 ? ODD[chance.nextInt(ODD.length)] : chance.nextInt(most);
    }

    /** Many WAYS first, letters more often than the rest. */
    private static int someCall(Random chance, int k) {
        if (k < 12) {
            return 3;
        }
        return chance.nextInt(8) == 0 ? 0 : chance.nextInt(CALLS);
    }

    private static long call(WalkTimes x, int call, Random r) {
        return call < 22 ? earlier(x, call, r) : later(x, call, r);
    }

    private static int sometimesLetter(WalkTimes x, Random r) {
        int place = x.count(2) % OFTEN.length();
        return r.nextInt(40) == 0 ? n(r, 256) : OFTEN.charAt(place);
    }

    private static long earlier(WalkTimes x, int call, Random r) {
        switch (call) {
            case 0: return x.letter(sometimesLetter(x, r));
            case 1: return x.tells();
            case 2: return r.nextInt(9) == 0 ? x.points(2 + n(r, 5)) : x.points(6);
            case 3: return x.way(n(r, 7), n(r, 7), n(r, 11), n(r, 11));
            case 4: return x.kind(n(r, 11), n(r, 7), n(r, 11));
            case 5: return x.load(n(r, 11), n(r, 11));
            case 6: return x.length(n(r, 11), n(r, 11));
            case 7: return r.nextInt(4) == 0 ? x.lose(n(r, 11)) : x.reaches(n(r, 7));
            case 8: return x.of(n(r, 11), n(r, 9));
            case 9: return x.reaches(n(r, 7));
            case 10: return x.time(n(r, 6), n(r, 6), n(r, 2));
            case 11: return x.steps(n(r, 6), n(r, 6), n(r, 2));
            case 12: return x.commute(n(r, 6), n(r, 6), n(r, 2));
            case 13: return x.visits(n(r, 6), n(r, 6), n(r, 6), n(r, 2));
            case 14: return x.resistance(n(r, 6), n(r, 6), n(r, 2));
            case 15: return x.ahead(n(r, 6), n(r, 64), n(r, 6), n(r, 2));
            case 16: return x.flow(n(r, 10), n(r, 6), n(r, 6), n(r, 2));
            case 17: return x.added(n(r, 6), n(r, 6));
            case 18: return x.missed(n(r, 6), n(r, 6));
            case 19: return x.bridges(n(r, 6), n(r, 6));
            case 20: return x.farthest(n(r, 6));
            default: return x.middle();
        }
    }

    private static long later(WalkTimes x, int call, Random r) {
        switch (call) {
            case 22: return x.sure(n(r, 6), n(r, 6), n(r, 22), n(r, 2));
            case 23: return x.fast(n(r, 6), n(r, 6), n(r, 22), n(r, 200), n(r, 2));
            case 24: return x.bySteps(n(r, 6), n(r, 6), n(r, 31), 1 + n(r, 2));
            case 25: return x.lots(n(r, 6), n(r, 6), n(r, 31), r.nextInt(), n(r, 2));
            case 26: return x.says(n(r, 6), n(r, 6), n(r, 50) - 1);
            case 27: return x.whatIs(n(r, 10), n(r, 2));
            case 28: return x.row(n(r, 20));
            case 29: return r.nextInt(4) == 0 ? x.clear() : x.row(n(r, 4));
            case 30: return x.list(n(r, 3), n(r, 21));
            case 31: return x.put(n(r, 3), n(r, 20), r.nextLong());
            case 32: return x.look(n(r, 3), n(r, 20));
            case 33: return x.lays(n(r, 3), n(r, 6), n(r, 12));
            case 34: return x.judge(n(r, 3), n(r, 6));
            case 35: return x.slot(n(r, 3), n(r, 6), n(r, 10));
            case 36: return x.slots(n(r, 3), n(r, 9), n(r, 11) - 1);
            case 37: return x.slotted(n(r, 3), n(r, 9), n(r, 10));
            case 38: return x.like(n(r, 3), n(r, 3));
            case 39: return x.image();
            case 40: return r.nextInt(4) == 0 ? x.on() : x.image();
            default: return x.count(r.nextInt(20));
        }
    }

    /** Behind the making of the object itself, 400 calls (and those that they ask ahead) make nothing more. */
    private static void noObjects() {
        com.sun.management.ThreadMXBean bean =
            (com.sun.management.ThreadMXBean) ManagementFactory.getThreadMXBean();
        long thread = Thread.currentThread().getId();
        long fewest = Long.MAX_VALUE;
        for (int turn = 0; turn < 5; turn++) {
            WalkTimes x = new WalkTimes();
            Random chance = new Random(turn);
            long before = bean.getThreadAllocatedBytes(thread);
            for (int k = 0; k < 400; k++) {
                call(x, someCall(chance, k), chance);
            }
            fewest = Math.min(fewest, bean.getThreadAllocatedBytes(thread) - before);
        }
        Due.is("bytes that 400 calls make", fewest, 0);
    }
}
