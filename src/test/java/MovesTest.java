/** Promises 7 to 11: bars that are moved, swapped, packed anew, that slip and are pulled. */
public final class MovesTest {
    public static void main(String[] args) {
        move();
        swap();
        pack();
        slip();
        pull();
        Checks.finish();
    }

    private static void due(String call, double got, double want) {
        Checks.due(call, got, want);
    }

    private static void move() {
        BarStrips x = Checks.chart(0, 0, 2, 2, 6, 2, 1, 3, 3);
        Checks.arrows(x, 0, 1);
        String before = Checks.told(x);
        due("no bar", x.move(3, 0, 0), Checks.UNKNOWN);
        due("lane above", x.move(0, 12, -1), Checks.UNKNOWN);
        due("lane below", x.move(0, -1, 300), Checks.UNKNOWN);
        due("day below", x.move(0, 0, -1), Checks.BAD_VALUE);
        due("day above", x.move(0, 0, 200), Checks.BAD_VALUE);
        due("end above 200", x.move(0, 0, 199), Checks.BAD_VALUE);
        due("very late day", x.move(0, 0, Integer.MAX_VALUE), Checks.BAD_VALUE);
        due("there already", x.move(0, 0, 0), Checks.NONE);
        due("its last day is taken", x.move(0, 1, 2), Checks.NOT_POSSIBLE);
        due("its first day is taken", x.move(0, 1, 5), Checks.NOT_POSSIBLE);
        Checks.same("errors", x, before);
        due("close ahead", x.move(0, 1, 1), 0);
        due("over its own days", x.move(0, 1, 0), 0);
        due("the arrow is late", x.move(1, 2, 1), 1);
        due("an end of 200", x.move(1, 0, 198), 0);
        Checks.lanes(x, 1, 0, 1);
        Checks.firstDays(x, 0, 198, 3);
        due("the arrow stays", x.arrowOf(0, 1), 1);
        due("undo", x.undo(), 3);
        Checks.firstDays(x, 0, 1, 3);
        Checks.end(7, "move");
    }

    private static void swap() {
        BarStrips x = Checks.chart(0, 0, 2, 2, 6, 2, 1, 0, 30);
        Checks.arrows(x, 0, 1);
        due("not drawn at first", x.count(3), 1);
        String before = Checks.told(x);
        due("lane above", x.swap(12, 0), Checks.UNKNOWN);
        due("lane below", x.swap(0, -1), Checks.UNKNOWN);
        due("no lane twice", x.swap(12, 12), Checks.UNKNOWN);
        due("the same", x.swap(1, 1), Checks.NONE);
        due("both without bars", x.swap(3, 11), Checks.NONE);
        Checks.same("errors", x, before);
        due("out of the way", x.swap(0, 1), 0);
        Checks.lanes(x, 1, 2, 0);
        due("with a lane without bars", x.swap(2, 5), 0);
        Checks.lanes(x, 1, 5, 0);
        due("a lane without bars first", x.swap(3, 0), 1);
        Checks.lanes(x, 1, 5, 3);
        Checks.firstDays(x, 0, 6, 0);
        due("states", x.count(13), 4);
        due("undo", x.undo(), 3);
        Checks.lanes(x, 1, 5, 0);
        Checks.end(8, "swap");
    }

    private static void pack() {
        BarStrips x = new BarStrips();
        due("no bars", x.pack(), Checks.NONE);
        x = Checks.chart(5, 4, 3, 7, 0, 5, 3, 4, 2, 9, 7, 1, 2, 5, 1);
        due("three lanes", x.pack(), 3);
        Checks.lanes(x, 1, 0, 2, 0, 0);
        Checks.firstDays(x, 4, 0, 4, 7, 5);
        due("packed already", x.pack(), Checks.NONE);
        due("undo", x.undo(), 3);
        Checks.lanes(x, 5, 7, 3, 9, 2);
        x = Checks.chart(4, 30, 9, 4, 20, 9, 5, 35, 9, 6, 0, 9, 7, 25, 9, 8, 5, 9, 9, 22, 4, 4, 9, 9);
        due("three lanes", x.pack(), 3);
        Checks.lanes(x, 0, 0, 1, 0, 2, 1, 1, 0);
        x = new BarStrips();
        for (int bar = 0; bar < 12; bar++) {
            due("bar " + bar, x.bar(11 - bar, 20, 5), bar);
        }
        due("twelve lanes", x.pack(), 12);
        Checks.lanes(x, 0, 1, 2, 3, 4, 5, 6, 7, 8, 9, 10, 11);
        Checks.end(9, "pack");
    }

    private static void slip() {
        BarStrips x = Checks.chart(0, 0, 3, 0, 5, 2, 1, 3, 4, 2, 2, 5, 1, 10, 1);
        Checks.arrows(x, 0, 2, 0, 3, 2, 1);
        String before = Checks.told(x);
        due("no bar", x.slip(5, 0), Checks.UNKNOWN);
        due("no days", x.slip(0, 0), Checks.BAD_VALUE);
        due("days below", x.slip(0, -3), Checks.BAD_VALUE);
        due("too many days", x.slip(0, 31), Checks.BAD_VALUE);
        Checks.same("errors", x, before);
        due("it and three others", x.slip(0, 4), 4);
        Checks.firstDays(x, 4, 7, 7, 2, 11);
        due("days so far", x.count(12), 11);
        due("it alone", x.slip(4, 30), 1);
        due("days so far", x.count(12), 41);
        due("undo", x.undo(), 3);
        due("days so far", x.count(12), 11);
        slipUpTo200();
        slipInAGap();
        Checks.end(10, "slip");
    }

    private static void slipUpTo200() {
        BarStrips x = Checks.chart(0, 170, 20, 0, 191, 9);
        due("no push yet", x.slip(0, 1), 1);
        String before = Checks.told(x);
        due("another one would be above 200", x.slip(0, 1), Checks.NOT_POSSIBLE);
        due("it would be above 200 itself", x.slip(1, 1), Checks.NOT_POSSIBLE);
        Checks.same("errors", x, before);
        due("pull", x.pull(0), 171);
        due("an end of 200 stays", x.slip(0, 30), 1);
        Checks.firstDays(x, 30, 191);
    }

    private static void slipInAGap() {
        BarStrips x = Checks.chart(0, 5, 3, 1, 6, 2, 2, 0, 4, 3, 40, 2);
        Checks.arrows(x, 0, 1, 2, 1, 1, 3);
        due("a late arrow pushes nobody", x.slip(0, 1), 1);
        Checks.firstDays(x, 6, 6, 0, 40);
        due("who pushes is as it was ahead", x.slip(2, 30), 2);
        Checks.firstDays(x, 6, 34, 30, 40);
        due("the arrow is not late any more", x.slip(0, 30), 3);
        Checks.firstDays(x, 36, 39, 30, 41);
        due("days so far", x.count(12), 1 + 30 + 28 + 30 + 5 + 1);
    }

    private static void pull() {
        BarStrips x = Checks.chart(0, 3, 2, 0, 9, 2, 1, 12, 3, 1, 4, 3);
        Checks.arrows(x, 1, 2, 0, 3);
        due("no bar", x.pull(4), Checks.UNKNOWN);
        due("below", x.pull(-1), Checks.UNKNOWN);
        due("behind a bar of its lane", x.pull(1), 4);
        due("behind a bar of its lane and an arrow", x.pull(2), 5);
        due("a late arrow does not push", x.pull(3), 4);
        due("to the first day", x.pull(0), 3);
        Checks.firstDays(x, 0, 5, 7, 0);
        due("it stays", x.pull(0), Checks.NONE);
        due("it stays behind a bar of its lane", x.pull(2), Checks.NONE);
        due("nobody slipped", x.count(12), 0);
        due("states", x.count(13), 4);
        due("undo", x.undo(), 3);
        Checks.firstDays(x, 3, 5, 7, 0);
        x = Checks.chart(0, 0, 5, 1, 9, 1);
        Checks.arrows(x, 0, 1);
        due("behind an arrow", x.pull(1), 4);
        x = Checks.chart(0, 9, 2, 0, 1, 3, 0, 5, 2);
        due("the first bar is the last one of its lane", x.pull(0), 2);
        due("a push on", x.slip(1, 9), 3);
        Checks.firstDays(x, 15, 10, 13);
        Checks.end(11, "pull");
    }
}
