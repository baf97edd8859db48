/** Promises 29 to 31: what would be. */
public final class WouldBeTest {
    public static void main(String[] args) {
        ifSlipped();
        bestSwap();
        bestLane();
        Checks.finish();
    }

    private static void due(String call, double got, double want) {
        Checks.due(call, got, want);
    }

    private static void ifSlipped() {
        BarStrips x = Checks.chart(0, 170, 20, 0, 190, 10, 1, 0, 5, 2, 100, 30);
        Checks.arrows(x, 2, 3, 3, 1);
        String before = Checks.told(x);
        due("no bar", x.ifSlipped(4, 0), Checks.UNKNOWN);
        due("no days", x.ifSlipped(0, 0), Checks.BAD_VALUE);
        due("too many days", x.ifSlipped(0, 31), Checks.BAD_VALUE);
        due("pushed above 200", x.ifSlipped(0, 30), 230);
        due("above 200 itself", x.ifSlipped(1, 1), 201);
        due("no other end", x.ifSlipped(2, 30), 200);
        due("it pushes, but not so far", x.ifSlipped(3, 30), 200);
        Checks.same("ifSlipped", x, before);
        x.takeBar(1);
        due("nobody is behind it", x.ifSlipped(0, 30), 220);
        x = Checks.chart(0, 0, 5, 1, 5, 5, 2, 8, 5);
        Checks.arrows(x, 0, 1, 1, 2);
        due("a late arrow does not push", x.ifSlipped(0, 4), 14);
        due("and has no part in the end", x.ifSlipped(0, 2), 13);
        Checks.end(29, "ifSlipped");
    }

    private static void bests(BarStrips x, int... bests) {
        for (int what = 0; what < 4; what++) {
            due("bestSwap(" + what + ")", x.bestSwap(what), bests[what]);
        }
    }

    private static void bestSwap() {
        int none = Checks.NONE;
        BarStrips x = new BarStrips();
        bests(x, none, none, none, none);
        x = Checks.chart(0, 0, 2, 2, 6, 2, 1, 0, 30);
        bests(x, none, none, none, none);
        Checks.arrows(x, 0, 1);
        String before = Checks.told(x);
        bests(x, 0, 1, 0, 0);
        Checks.same("bestSwap", x, before);
        due("what below", x.bestSwap(-1), Checks.BAD_VALUE);
        due("what above", x.bestSwap(4), Checks.BAD_VALUE);
        due("the swap", x.swap(0, 1), 0);
        bests(x, none, none, none, none);
        due("what above, with NONE", x.bestSwap(4), Checks.BAD_VALUE);
        fewerPoints();
        laneWithoutBars();
        Checks.end(30, "bestSwap");
    }

    /** Nothing is undrawn: the points decide, then the first lane. */
    private static void fewerPoints() {
        BarStrips x = Checks.chart(1, 0, 1, 3, 20, 1, 0, 0, 1, 2, 15, 1);
        Checks.arrows(x, 0, 1, 2, 3);
        x.set(0, 2);
        bests(x, 0, 3, 0, 0);
        due("the other one of no points", x.swap(1, 2), 0);
        due("points", x.count(5), 0);
    }

    /** The lowest first lane is one without bars, and a late arrow stays not drawn. */
    private static void laneWithoutBars() {
        BarStrips x = Checks.chart(3, 0, 2, 5, 6, 2, 4, 0, 30, 8, 1, 1);
        Checks.arrows(x, 0, 1, 1, 3);
        bests(x, 0, 4, 1, 0);
        due("the swap", x.swap(0, 4), 1);
        int none = Checks.NONE;
        bests(x, none, none, none, none);
        x = Checks.chart(3, 0, 2, 5, 6, 2, 0, 0, 30, 1, 0, 30, 2, 0, 30, 4, 0, 30);
        Checks.arrows(x, 0, 1);
        bests(x, 2, 5, 0, 0);
        x.takeBar(5);
        due("nothing to be better in", x.bestSwap(0), none);
        due("undo", x.undo(), 3);
        bests(x, 2, 5, 0, 0);
    }

    private static void bestLane() {
        BarStrips x = Checks.chart(0, 0, 2, 2, 6, 2, 1, 0, 30, 7, 100, 2);
        Checks.arrows(x, 0, 1);
        String before = Checks.told(x);
        due("no bar", x.bestLane(4), Checks.UNKNOWN);
        due("below", x.bestLane(-1), Checks.UNKNOWN);
        due("out of the way, where there is room", x.bestLane(2), 3);
        due("the lane of the other one", x.bestLane(0), 2);
        due("the lane of the other one", x.bestLane(1), 0);
        due("no matter, so the lowest", x.bestLane(3), 0);
        Checks.same("bestLane", x, before);
        x.bar(0, 100, 1);
        x.bar(1, 101, 1);
        due("the lowest with room", x.bestLane(3), 2);
        x = Checks.chart(4, 0, 3, 4, 3, 1);
        Checks.arrows(x, 1, 0);
        due("late in all lanes", x.bestLane(0), 0);
        Checks.end(31, "bestLane");
    }
}
