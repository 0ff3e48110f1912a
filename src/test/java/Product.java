import java.util.ArrayList;
import java.util.Arrays;
import java.util.function.Supplier;

/**
 * A call with each of its arguments at each side of each of its bounds, all of them with all others:
 * refused with the first number that fits in the order in which the promise tells them, else taken.
 */
final class Product {
    static final int LEAST = Integer.MIN_VALUE;
    static final int MOST = Integer.MAX_VALUE;

    /** The call with these arguments. */
    interface Call {
        long on(WalkTimes x, int[] v);
    }

    private record Value(int v, int number) {
    }

    private final Supplier<WalkTimes> made;
    private final String name;
    private final boolean ofLongs;
    private final Call call;
    private final ArrayList<Value[]> arguments = new ArrayList<>();
    private int[] told = {};

    private Product(Supplier<WalkTimes> made, String name, boolean ofLongs, Call call) {
        this.made = made;
        this.name = name;
        this.ofLongs = ofLongs;
        this.call = call;
    }

    static Product ofInts(Supplier<WalkTimes> made, String name, Call call) {
        return new Product(made, name, false, call);
    }

    static Product ofLongs(Supplier<WalkTimes> made, String name, Call call) {
        return new Product(made, name, true, call);
    }

    static int[] good(int... values) {
        int[] row = new int[values.length + 1];
        System.arraycopy(values, 0, row, 1, values.length);
        return row;
    }

    static int[] no(int number, int... values) {
        int[] row = good(values);
        row[0] = number;
        return row;
    }

    /** The next argument: which values are good, which are refused with which number. */
    Product argument(int[]... rows) {
        ArrayList<Value> values = new ArrayList<>();
        for (int[] row : rows) {
            for (int k = 1; k < row.length; k++) {
                values.add(new Value(row[k], row[0]));
            }
        }
        arguments.add(values.toArray(new Value[0]));
        return this;
    }

    /** All of them are asked; the numbers stand in the order in which the promise tells them. */
    void inOrder(int... numbers) {
        told = numbers;
        for (Value[] values : arguments) {
            for (Value value : values) {
                int found = value.number == 0 ? 0 : first(new int[] {value.number});
                Due.is("the place of " + value.number + " in the order that is told", found, value.number);
            }
        }
        ask(0, new int[arguments.size()], new int[arguments.size()]);
    }

    private void ask(int k, int[] v, int[] fits) {
        if (k == v.length) {
            askOf(v.clone(), fits);
            return;
        }
        for (Value value : arguments.get(k)) {
            v[k] = value.v;
            fits[k] = value.number;
            ask(k + 1, v, fits);
        }
    }

    private void askOf(int[] v, int[] fits) {
        String text = name + Arrays.toString(v).replace('[', '(').replace(']', ')');
        int number = first(fits);
        if (number == 0) {
            taken(text, v);
        } else if (ofLongs) {
            Bound.refusesLong(made, text, number, x -> call.on(x, v));
        } else {
            Bound.refuses(made, text, number, x -> call.on(x, v));
        }
    }

    private int first(int[] fits) {
        for (int number : told) {
            for (int one : fits) {
                if (one == number) {
                    return number;
                }
            }
        }
        return 0;
    }

    private void taken(String text, int[] v) {
        WalkTimes x = made.get();
        int[] before = Due.refusals(x);
        long answer = call.on(x, v);
        boolean refused = ofLongs ? answer >= 4000000000000000001L && answer <= 4000000000000000016L
            : answer < 0 && answer != -9;
        Due.is(text + " answered " + answer + ", refused", refused ? 1 : 0, 0);
        Due.said("REFUSALS behind " + text, Arrays.toString(Due.refusals(x)), Arrays.toString(before));
    }
}
