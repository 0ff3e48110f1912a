import java.util.function.Supplier;
import java.util.function.ToLongFunction;

/**
 * A call at a bound: made on an object of its own, beside one like it on which it is not made, so
 * that all that it changes can be seen (what is looked at by letting it come, too: letters, the ROW,
 * the IMAGE, what SLOTS are made for). Each object has its 512 calls for that.
 */
final class Bound {
    private static final long LONGS = 4000000000000000000L;

    private Bound() {
    }

    /** The call answers this, and counts no REFUSAL; it may change what is there. */
    static void takes(Supplier<WalkTimes> made, String text, long want, ToLongFunction<WalkTimes> call) {
        WalkTimes x = made.get();
        int[] before = Due.refusals(x);
        Due.is(text, call.applyAsLong(x), want);
        counts(text, x, before, 0);
    }

    /** The call answers this, twice, counts no REFUSAL, and all is as it was behind it. */
    static void asks(Supplier<WalkTimes> made, String text, long want, ToLongFunction<WalkTimes> call) {
        answers(made, text, want, 0, call);
    }

    /** A call that tells a fraction by its parts. */
    interface PartCall {
        long on(WalkTimes x, int part);
    }

    /** Both parts of a fraction are told, and all is as it was behind it. */
    static void fraction(Supplier<WalkTimes> made, String text, long above, long below, PartCall call) {
        asks(made, text + " above the line", above, x -> call.on(x, 0));
        asks(made, text + " below the line", below, x -> call.on(x, 1));
    }

    /** A call that answers an int is refused, twice: only how often there was that REFUSAL changes. */
    static void refuses(Supplier<WalkTimes> made, String text, int number, ToLongFunction<WalkTimes> call) {
        answers(made, text, number, number, call);
    }

    /** A call that answers a long is refused. */
    static void refusesLong(Supplier<WalkTimes> made, String text, int number, ToLongFunction<WalkTimes> call) {
        answers(made, text, LONGS - number, number, call);
    }

    private static void answers(Supplier<WalkTimes> made, String text, long want, int number,
            ToLongFunction<WalkTimes> call) {
        WalkTimes x = made.get();
        WalkTimes without = made.get();
        for (int turn = 0; turn < 2; turn++) {
            int[] before = Due.refusals(x);
            Due.is(text, call.applyAsLong(x), want);
            counts(text, x, before, number);
            askOthers(x);
        }
        Due.said("what is there behind " + text, all(x), all(without));
    }

    /** What other calls worked out must not be left to the next one. */
    private static void askOthers(WalkTimes x) {
        x.middle();
        x.says(1, 0, -1);
        x.bySteps(0, 1, 3, 0);
        x.lots(1, 0, 2, 3, 0);
        x.added(0, 1);
        x.visits(1, 0, 1, 0);
        x.ahead(1, 1, 0, 0);
        x.steps(0, 1, 0);
        x.time(1, 0, 0);
    }

    private static void counts(String text, WalkTimes x, int[] before, int number) {
        for (int k = 1; k <= 6; k++) {
            int want = before[k] + (number == -k ? 1 : 0);
            Due.is("count(" + (10 + k) + ") behind " + text, x.count(10 + k), want);
        }
    }

    /** All that an object holds but REFUSALS; it is no more as it was behind this. */
    static String all(WalkTimes x) {
        StringBuilder text = new StringBuilder(net(x));
        for (int list = 0; list < 3; list++) {
            text.append("; LIST ").append(list).append(": ").append(list(x, list));
        }
        for (int slot = 0; slot < 3; slot++) {
            text.append("; SLOT ").append(slot).append(": ").append(slot(x, slot));
        }
        text.append("; letters ").append(x.tells()).append(" to ").append(ends(x));
        byOneWay(x, text);
        text.append("; IMAGE ").append(x.on()).append(": ").append(net(x));
        return text.toString();
    }

    /** As Due.state tells it, without what follows from the rest: there are but 512 calls. */
    private static String net(WalkTimes x) {
        StringBuilder text = new StringBuilder();
        text.append(x.count(0)).append(' ').append(x.count(2)).append(' ').append(x.count(3));
        int ways = x.count(1);
        for (int way = 0; way < ways; way++) {
            text.append("; ");
            for (int what = 0; what <= 5; what++) {
                text.append(x.of(way, what)).append(' ');
            }
        }
        return text.toString();
    }

    static String list(WalkTimes x, int list) {
        StringBuilder text = new StringBuilder();
        for (int i = 0; i <= 20; i++) {
            long v = x.look(list, i);
            text.append(v).append(' ');
            if (v == LONGS + 11 || v == LONGS + 13) {
                break;
            }
        }
        return text.toString();
    }

    private static String slot(WalkTimes x, int slot) {
        StringBuilder text = new StringBuilder();
        for (int i = 0; i <= 9; i++) {
            int v = x.slotted(slot, i, 9);
            text.append(v).append(' ');
            if (v == -11 || v == -13) {
                break;
            }
            text.append(x.slotted(slot, i, 4)).append(' ');
        }
        return text.toString();
    }

    private static String ends(WalkTimes x) {
        StringBuilder text = new StringBuilder();
        text.append(x.count(0)).append(' ');
        int ways = x.count(1);
        for (int way = 0; way < ways; way++) {
            text.append(x.of(way, 0)).append(x.of(way, 1)).append(x.of(way, 4)).append(' ');
        }
        return text.toString();
    }

    /** The ROW and what SLOTS are made for, by one WAY of each KIND. */
    private static void byOneWay(WalkTimes x, StringBuilder text) {
        x.points(2);
        if (x.count(1) == 10) {
            x.lose(0);
        }
        int way = x.way(0, 1, 1, 1);
        text.append("; ROW ").append(x.count(3)).append(':');
        for (int kind = 0; kind < 6; kind++) {
            x.kind(way, kind, 2);
            text.append(' ').append(x.whatIs(way, 0)).append(' ').append(x.whatIs(way, 1)).append(' ');
            for (int slot = 0; slot < 3; slot++) {
                text.append(x.slots(slot, 0, way)).append(' ');
            }
        }
        text.append(x.clear());
    }
}
