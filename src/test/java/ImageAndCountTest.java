/** Promises 41 to 43: THE IMAGE, ON, count. */
public final class ImageAndCountTest {
    public static void main(String[] args) {
        imageAndOn();
        onTouchesNothingElse();
        count();
        Due.end("ImageAndCountTest");
    }

    private static void imageAndOn() {
        WalkTimes x = new WalkTimes();
        Due.refuses(x, "on() without an IMAGE", -3, x::on);
        Due.is("image() of none", x.image(), 0);
        x.points(6);
        x.way(5, 4, 1, 2);
        x.way(0, 1, 3, 4);
        x.kind(1, 3, 5);
        Due.is("on() to none", x.on(), 0);
        Due.said("the state", Due.state(x), "4 0 0 0 0 4 ");
        x.points(6);
        x.way(5, 4, 1, 2);
        x.way(0, 1, 3, 4);
        x.kind(1, 3, 5);
        String taken = Due.state(x);
        Due.is("image()", x.image(), 2);
        x.load(0, 9);
        x.length(0, 9);
        x.kind(0, 1, 1);
        x.way(1, 2, 3, 3);
        Due.is("on()", x.on(), 2);
        Due.said("the state behind on()", Due.state(x), taken);
        x.points(2);
        x.load(0, 8);
        Due.is("on() again", x.on(), 2);
        Due.said("the state behind on() again", Due.state(x), taken);
        x.lose(0);
        Due.is("image() again", x.image(), 1);
        Due.is("lose(0)", x.lose(0), 0);
        Due.is("on() from the new one", x.on(), 1);
        Due.is("the WAY that is there", x.of(0, 3), 5);
    }

    private static void onTouchesNothingElse() {
        WalkTimes x = new WalkTimes();
        x.image();
        x.letter('w');
        x.row(7);
        x.list(0, 2);
        x.put(0, 1, 5);
        x.way(0, 1, 2, 2);
        x.slot(1, 0, 1);
        x.slots(1, 0, 0);
        x.points(9);
        Due.is("on()", x.on(), 0);
        Due.is("letters", x.count(2), 1);
        Due.is("the ROW", x.count(3), 1);
        Due.is("a LIST", x.look(0, 1), 5);
        Due.is("a SLOT", x.slotted(1, 0, 7), 7);
        Due.is("REFUSALS", x.count(16), 1);
    }

    private static void count() {
        WalkTimes x = new WalkTimes();
        x.points(6);
        x.way(0, 1, 9, 1);
        x.way(0, 1, 3, 1);
        x.way(3, 2, 4, 1);
        x.kind(0, 2, 0);
        x.letter('w');
        x.letter('a');
        x.row(1);
        int[] want = {6, 3, 2, 1, 25, 4};
        for (int what = 0; what < want.length; what++) {
            Due.is("count(" + what + ")", x.count(what), want[what]);
        }
        int[] others = {-1, 6, 7, 8, 9, 10, 17, 18, Integer.MIN_VALUE, Integer.MAX_VALUE};
        for (int what : others) {
            Due.is("count(" + what + ")", x.count(what), -9);
        }
        for (int what = 11; what <= 16; what++) {
            Due.is("count(" + what + ")", x.count(what), 0);
        }
        x.lose(-1);
        x.of(0, 8);
        x.of(0, 9);
        x.time(0, 5, 0);
        x.row(-1);
        x.row(100);
        x.row(100);
        x.row(100);
        // None of these counts: -9, -11, -13, -14, -16, a FAULT.
        x.middle();
        x.put(0, 0, 0);
        x.look(0, 0);
        x.list(0, 1);
        x.look(0, 1);
        x.lays(0, 0, 0);
        x.list(0, -1);
        x.slot(0, 5, 1);
        x.slots(0, 0, 0);
        x.slotted(0, 0, 1);
        x.tells();
        int[] counts = {1, 2, 1, 1, 0, 3};
        for (int k = 0; k < counts.length; k++) {
            Due.is("count(" + (11 + k) + ")", x.count(11 + k), counts[k]);
        }
    }
}
