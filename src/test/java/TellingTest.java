/** Promises 20 to 28: what is told. */
public final class TellingTest {
    public static void main(String[] args) {
        barOf();
        arrowOf();
        reason();
        cell();
        strip();
        count();
        latest();
        longest();
        share();
        Checks.finish();
    }

    private static void due(String call, double got, double want) {
        Checks.due(call, got, want);
    }

    /** Four bars in two lanes, two wide days, and strips 0 to 4, 5 to 11, 12 to 21, 22 to 23. */
    private static BarStrips four() {
        BarStrips x = Checks.chart(3, 4, 6, 3, 12, 2, 5, 10, 3, 3, 20, 4);
        Checks.arrows(x, 0, 2, 1, 3, 2, 3, 0, 1);
        due("two wide days", x.width(4, 5, 7), 2);
        due("narrow strips", x.set(1, 20), 60);
        return x;
    }

    private static void barOf() {
        BarStrips x = four();
        int[][] bars = {
            {3, 4, 6, 10, 8, 22, 7, 2, 0, 0, 2, 1},
            {3, 12, 2, 14, 34, 4, 6, 1, 1, 2, 1, 3},
            {5, 10, 3, 13, 30, 6, 7, 1, 1, 1, 2, Checks.NONE},
            {3, 20, 4, 24, 50, 8, 0, 0, 2, 2, 2, Checks.NONE}};
        for (int bar = 0; bar < 4; bar++) {
            for (int what = 0; what < 12; what++) {
                due("barOf(" + bar + ", " + what + ")", x.barOf(bar, what), bars[bar][what]);
            }
        }
        due("no bar", x.barOf(4, 0), Checks.UNKNOWN);
        due("below", x.barOf(-1, 99), Checks.UNKNOWN);
        due("what above", x.barOf(0, 12), Checks.BAD_VALUE);
        due("what below", x.barOf(0, -1), Checks.BAD_VALUE);
        x.takeBar(1);
        due("the next behind now", x.barOf(0, 11), 3);
        due("slack now", x.barOf(0, 6), 7);
        x = Checks.chart(0, 198, 2);
        due("place of the day 198", x.barOf(0, 4), 396);
        due("the last strip", x.barOf(0, 9), 6);
        x = Checks.chart(0, 50, 2, 0, 40, 3, 0, 60, 4, 0, 0, 5);
        int[] behind = {2, 0, Checks.NONE, 1};
        for (int bar = 0; bar < 4; bar++) {
            due("next behind bar " + bar, x.barOf(bar, 11), behind[bar]);
        }
        due("strips of 30 days", x.barOf(1, 10), 1);
        due("up to the last day of a strip", x.move(1, 0, 27), 0);
        due("in one strip", x.barOf(1, 10), 1);
        due("a day more", x.move(1, 0, 28), 0);
        due("in two strips", x.barOf(1, 10), 2);
        due("from the first day of a strip", x.move(1, 0, 30), 0);
        due("its strip", x.barOf(1, 9), 1);
        x = Checks.chart(0, 0, 1, 1, 100, 1, 2, 0, 3, 2, 3, 2);
        due("a great slack", x.barOf(0, 6), 100);
        due("slack behind a bar", x.barOf(2, 6), 101 - 2 - 3);
        Checks.end(20, "barOf");
    }

    /** An arrow down over the days 2 to 10, one along lane 2, a late one, and one without a day. */
    private static BarStrips drawn() {
        BarStrips x = Checks.chart(0, 0, 2, 4, 10, 2, 2, 1, 2, 2, 12, 3, 6, 5, 4, 7, 9, 1);
        Checks.arrows(x, 0, 1, 2, 3, 4, 2, 4, 5);
        due("strips of five days", x.set(1, 10), 60);
        return x;
    }

    private static void arrowOf() {
        BarStrips x = drawn();
        int none = Checks.NONE;
        int[][] arrows = {
            {0, 1, 3, 0, 8, 16, 0, 2},
            {2, 3, 3, 0, 10, 18, 0, 2},
            {4, 2, none, 8, 0, none, 0, none},
            {4, 5, 9, 0, 1, 0, 0, 0}};
        for (int arrow = 0; arrow < 4; arrow++) {
            for (int what = 0; what < 8; what++) {
                due("arrowOf(" + arrow + ", " + what + ")", x.arrowOf(arrow, what), arrows[arrow][what]);
            }
        }
        due("no arrow", x.arrowOf(4, 0), Checks.UNKNOWN);
        due("below", x.arrowOf(-1, 99), Checks.UNKNOWN);
        due("what above", x.arrowOf(0, 8), Checks.BAD_VALUE);
        due("what below", x.arrowOf(0, -1), Checks.BAD_VALUE);
        due("the last bend", x.set(0, 1), 0);
        Checks.bends(x, 10, 12, none, 9);
        due("a point", x.arrowOf(0, 6), 1);
        due("a point", x.arrowOf(1, 6), 1);
        due("the middle bend", x.set(0, 2), 1);
        Checks.bends(x, 6, 7, none, 9);
        due("a point", x.arrowOf(0, 6), 1);
        due("a wide day", x.width(9, 10, 5), 2);
        due("width along it", x.arrowOf(0, 5), 19);
        onToAnotherStrip();
        twoPoints();
        noPoints();
        pointOnABend();
        edgesOfALane();
        Checks.end(21, "arrowOf");
    }

    private static void twoPoints() {
        BarStrips x = Checks.chart(1, 0, 1, 3, 20, 1, 0, 0, 1, 2, 15, 1);
        Checks.arrows(x, 0, 1, 2, 3);
        due("the middle bend", x.set(0, 2), 0);
        due("two points in all, asked first", x.count(5), 2);
        Checks.bends(x, 10, 8);
        due("two points", x.arrowOf(0, 6), 2);
        due("two points", x.arrowOf(1, 6), 2);
        due("two points in all", x.count(5), 2);
    }

    private static void onToAnotherStrip() {
        BarStrips x = Checks.chart(0, 28, 2, 1, 30, 2, 2, 29, 1, 3, 29, 2);
        Checks.arrows(x, 0, 1, 2, 1, 3, 1);
        due("from the last day of a strip to the first one", x.arrowOf(0, 7), 1);
        due("from a single day", x.arrowOf(1, 7), 1);
        due("not drawn", x.arrowOf(2, 7), Checks.NONE);
        due("late by one day", x.arrowOf(2, 3), 1);
        due("late ones", x.count(4), 1);
        due("an earlier day", x.move(0, 0, 27), 1);
        due("from the day ahead of the last one", x.arrowOf(0, 7), 1);
        x = Checks.chart(0, 30, 1, 1, 60, 2);
        Checks.arrows(x, 0, 1);
        due("from the first day of a strip", x.arrowOf(0, 7), 1);
    }

    /** Neither in the arrow's own lanes, nor along one that is not drawn. */
    private static void noPoints() {
        BarStrips x = Checks.chart(0, 0, 2, 2, 10, 2, 2, 0, 3, 2, 20, 2, 0, 20, 2);
        Checks.arrows(x, 0, 1, 2, 1, 0, 4);
        due("the middle bend", x.set(0, 2), 0);
        due("in its own lanes", x.arrowOf(0, 6), 0);
        due("points", x.count(5), 0);
        x = Checks.chart(0, 0, 2, 4, 10, 2, 5, 0, 9, 2, 5, 2);
        Checks.arrows(x, 0, 1, 2, 3);
        Checks.bends(x, 2, Checks.NONE);
        due("one is not drawn", x.arrowOf(0, 6), 0);
        due("points", x.count(5), 0);
    }

    /** An arrow goes along its lane on both sides of its bend. */
    private static void pointOnABend() {
        BarStrips x = Checks.chart(0, 0, 2, 4, 10, 2, 2, 0, 3, 2, 9, 3);
        Checks.arrows(x, 0, 1, 2, 3);
        due("the middle bend", x.set(0, 2), 0);
        Checks.bends(x, 6, 6);
        due("a point", x.count(5), 1);
        due("the other lane", x.move(3, 3, 9), 0);
        Checks.bends(x, 6, 6);
        due("no point, as it leaves the lane there", x.count(5), 0);
    }

    /** An arrow goes along a lane from its bar's end on, up to the day ahead of the other one. */
    private static void edgesOfALane() {
        BarStrips x = Checks.chart(0, 0, 2, 4, 3, 2, 2, 1, 2, 2, 12, 3);
        Checks.arrows(x, 0, 1, 2, 3);
        due("the last bend", x.set(0, 1), 0);
        int[] bends = {3, 4, 11, 12};
        int[] points = {0, 1, 1, 0};
        for (int i = 0; i < 4; i++) {
            x.move(1, 4, bends[i]);
            due("the bend", x.arrowOf(0, 2), bends[i]);
            due("points at the bend " + bends[i], x.arrowOf(0, 6), points[i]);
        }
    }

    private static void reason() {
        BarStrips x = Checks.chart(0, 0, 2, 3, 12, 2, 0, 6, 2, 3, 4, 2, 1, 2, 3);
        Checks.arrows(x, 0, 1);
        int[] reasons = {1, 1, 3, 3, 3, 3, 0, 2, 2, 2, 2, 2, 2, 1};
        reasons(x, reasons);
        due("no arrow", x.reason(1, 6), Checks.UNKNOWN);
        due("below", x.reason(-1, 6), Checks.UNKNOWN);
        due("least number", x.reason(0, Integer.MIN_VALUE), 1);
        due("greatest number", x.reason(0, Integer.MAX_VALUE), 1);
        due("day 200", x.reason(0, 200), 1);
        x.takeBar(3);
        reasons(x, new int[] {1, 1, 0, 4, 4, 0, 0, 2, 2, 2, 2, 2, 2, 1});
        x.bar(1, 5, 3);
        reasons(x, new int[] {1, 1, 0, 4, 4, 0, 4, 2, 2, 2, 2, 2, 2, 1});
        x.bar(0, 2, 1);
        reasons(x, new int[] {1, 1, 0, 2, 2, 2, 2, 2, 2, 2, 2, 2, 2, 1});
        x = Checks.chart(1, 5, 4, 0, 0, 2, 2, 12, 2);
        Checks.arrows(x, 1, 2);
        reasons(x, new int[] {1, 1, 0, 0, 0, 0, 4, 4, 4, 0, 0, 0, 0, 1});
        x.move(0, 2, 5);
        reasons(x, new int[] {1, 1, 3, 3, 3, 3, 3, 3, 3, 0, 0, 0, 0, 1});
        x.move(0, 0, 5);
        reasons(x, new int[] {1, 1, 0, 0, 0, 0, 2, 2, 2, 2, 2, 2, 2, 1});
        x = Checks.chart(0, 0, 2, 0, 10, 1, 0, 5, 2, 1, 0, 30);
        Checks.arrows(x, 0, 1, 1, 3);
        reasons(x, new int[] {1, 1, 3, 3, 3, 3, 2, 2, 2, 2, 2, 1});
        due("a late one", x.reason(1, 11), 1);
        due("a late one", x.reason(1, 5), 1);
        Checks.end(22, "reason");
    }

    private static void reasons(BarStrips x, int[] reasons) {
        for (int bend = 0; bend < reasons.length; bend++) {
            due("reason(0, " + bend + ")", x.reason(0, bend), reasons[bend]);
        }
    }

    private static void cell() {
        BarStrips x = Checks.chart(0, 2, 3, 11, 198, 2, 0, 5, 1);
        due("lane below", x.cell(-1, 0), Checks.UNKNOWN);
        due("lane above", x.cell(12, 0), Checks.UNKNOWN);
        due("day below", x.cell(0, -1), Checks.UNKNOWN);
        due("day above", x.cell(0, 200), Checks.UNKNOWN);
        int[] days = {-5, -5, 0, 0, 0, 2, -5};
        for (int day = 0; day < days.length; day++) {
            due("cell(0, " + day + ")", x.cell(0, day), days[day]);
        }
        due("another lane", x.cell(1, 2), Checks.NONE);
        due("the last day of all", x.cell(11, 199), 1);
        due("ahead of it", x.cell(11, 197), Checks.NONE);
        Checks.end(23, "cell");
    }

    private static void strip() {
        BarStrips x = four();
        int[][] strips = {{0, 5, 15, 1, 1}, {5, 7, 19, 2, 1}, {12, 10, 20, 3, 2}, {22, 2, 4, 1, 0}};
        for (int strip = 0; strip < 4; strip++) {
            for (int what = 0; what < 5; what++) {
                due("strip(" + strip + ", " + what + ")", x.strip(strip, what), strips[strip][what]);
            }
        }
        due("no such strip", x.strip(4, 0), Checks.NONE);
        due("no strip by far", x.strip(Integer.MAX_VALUE, 4), Checks.NONE);
        due("below", x.strip(-1, 0), Checks.BAD_VALUE);
        due("what below", x.strip(0, -1), Checks.BAD_VALUE);
        due("what above, without a strip", x.strip(4, 5), Checks.BAD_VALUE);
        x = Checks.chart(0, 170, 30);
        x.width(0, 199, 9);
        x.set(1, 10);
        due("a strip for each day", x.count(7), 200);
        due("the last one", x.strip(199, 0), 199);
        due("behind it", x.strip(200, 0), Checks.NONE);
        due("in how many", x.barOf(0, 10), 30);
        x.set(1, 999);
        due("two", x.count(7), 2);
        due("days of the first", x.strip(0, 1), 111);
        Checks.end(24, "strip");
    }

    private static void count() {
        BarStrips x = four();
        int[] counts = {4, 4, 2, 0, 0, 0, 24, 4, 58, 1, 4, 4, 0, 4, 0, 0, 20};
        counts(x, counts);
        due("what above", x.count(17), Checks.BAD_VALUE);
        due("what below", x.count(-1), Checks.BAD_VALUE);
        x.bar(4, 0, 30);
        x.slip(2, 1);
        x.type('0');
        x.set(0, 2);
        counts(x, new int[] {5, 4, 3, 2, 0, 0, 30, 4, 70, 1, 5, 4, 1, 4, 1, 2, 20});
        x.takeBar(3);
        x.move(1, 3, 0);
        counts(x, new int[] {4, 2, 3, 2, 1, 0, 30, 4, 70, 1, 5, 4, 1, 4, 1, 2, 20});
        firstOnes();
        Checks.end(25, "count");
    }

    private static void firstOnes() {
        BarStrips x = Checks.chart(0, 4, 5, 1, 3, 2);
        Checks.arrows(x, 0, 1);
        due("the first bar is critical", x.count(9), 1);
        due("the first arrow is late", x.count(4), 1);
        due("late by one", x.move(1, 1, 8), 1);
        due("late by one", x.count(4), 1);
        due("not late", x.move(1, 1, 9), 0);
        due("not late", x.count(4), 0);
        due("both are critical", x.count(9), 2);
    }

    private static void counts(BarStrips x, int[] counts) {
        for (int what = 0; what < counts.length; what++) {
            due("count(" + what + ")", x.count(what), counts[what]);
        }
    }

    private static void latest() {
        BarStrips x = four();
        int[] latest = {11, 18, 17, 20};
        for (int bar = 0; bar < 4; bar++) {
            due("latest(" + bar + ")", x.latest(bar), latest[bar]);
        }
        due("no bar", x.latest(4), Checks.UNKNOWN);
        due("below", x.latest(-1), Checks.UNKNOWN);
        x.takeArrow(2);
        due("it pushes nobody any more", x.latest(2), 21);
        due("now by way of bar 1", x.latest(0), 12);
        x = Checks.chart(0, 0, 5, 1, 3, 9);
        Checks.arrows(x, 0, 1);
        due("a late arrow does not push", x.latest(0), 7);
        Checks.end(26, "latest");
    }

    private static void longest() {
        BarStrips x = new BarStrips();
        due("without bars", x.longest(), 0);
        x = four();
        due("by arrows and a lane", x.longest(), 13);
        x.takeArrow(0);
        due("by the lane", x.longest(), 12);
        x = Checks.chart(0, 0, 5, 1, 3, 9);
        due("one alone", x.longest(), 9);
        Checks.arrows(x, 0, 1);
        due("a late arrow does not push", x.longest(), 9);
        x.move(1, 1, 5);
        due("it pushes now", x.longest(), 14);
        x.bar(0, 50, 6);
        due("the lane is shorter", x.longest(), 14);
        x.bar(0, 80, 6);
        due("the lane is longer", x.longest(), 17);
        Checks.end(27, "longest");
    }

    private static void share() {
        BarStrips x = new BarStrips();
        due("without bars", x.share(), 0.0);
        x = four();
        due("two lanes", x.share(), 40.0 / 116.0);
        x = Checks.chart(7, 0, 3);
        due("all of it", x.share(), 1.0);
        x.bar(8, 2, 1);
        due("two lanes", x.share(), 8.0 / 12.0);
        x.width(2, 2, 9);
        due("a wide day", x.share(), 22.0 / 26.0);
        x.takeBar(1);
        due("one that went has no part in it", x.share(), 1.0);
        Checks.end(28, "share");
    }
}
