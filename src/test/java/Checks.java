/** What the tests of the promises share: answers that are due, charts to begin with, what is told. */
final class Checks {
    static final int UNKNOWN = -1;
    static final int BAD_VALUE = -2;
    static final int FULL = -3;
    static final int NOT_POSSIBLE = -4;
    static final int NONE = -5;

    private static int failed;
    private static int wrong;

    private Checks() {
    }

    static void due(String call, double got, double want) {
        if (got != want) {
            wrong++;
            System.out.println(call + " answered " + got + ", due is " + want);
        }
    }

    /** Ends the test of a promise with a line of its own. */
    static void end(int promise, String name) {
        System.out.println((wrong > 0 ? "FAILED" : "ok") + " promise " + promise + ": " + name);
        failed += wrong > 0 ? 1 : 0;
        wrong = 0;
    }

    static void finish() {
        if (failed > 0) {
            System.exit(1);
        }
    }

    /** A chart of bars, three numbers for each: lane, first day, days. */
    static BarStrips chart(int... bars) {
        BarStrips x = new BarStrips();
        for (int i = 0; i < bars.length; i += 3) {
            due("bar for the test", x.bar(bars[i], bars[i + 1], bars[i + 2]), i / 3);
        }
        return x;
    }

    static void arrows(BarStrips x, int... pairs) {
        for (int i = 0; i < pairs.length; i += 2) {
            int next = x.count(11);
            due("arrow for the test", x.arrow(pairs[i], pairs[i + 1]), next);
        }
    }

    static void text(BarStrips x, String text) {
        x.clearText();
        for (int i = 0; i < text.length(); i++) {
            due("type for the test", x.type(text.charAt(i)), i + 1);
        }
    }

    /** The first days of the bars 0, 1, 2 and so on. */
    static void firstDays(BarStrips x, int... days) {
        for (int bar = 0; bar < days.length; bar++) {
            due("first day of bar " + bar, x.barOf(bar, 1), days[bar]);
        }
    }

    static void lanes(BarStrips x, int... lanes) {
        for (int bar = 0; bar < lanes.length; bar++) {
            due("lane of bar " + bar, x.barOf(bar, 0), lanes[bar]);
        }
    }

    static void bends(BarStrips x, int... bends) {
        for (int arrow = 0; arrow < bends.length; arrow++) {
            due("bend of arrow " + arrow, x.arrowOf(arrow, 2), bends[arrow]);
        }
    }

    /** All counts, and what is told of the bars and arrows 0 to 9. */
    static String told(BarStrips x) {
        StringBuilder told = new StringBuilder();
        for (int what = 0; what <= 16; what++) {
            told.append(x.count(what)).append(' ');
        }
        for (int i = 0; i < 10; i++) {
            for (int what = 0; what <= 11; what++) {
                told.append(x.barOf(i, what)).append(' ').append(x.arrowOf(i, what)).append(' ');
            }
        }
        return told.toString();
    }

    static void same(String call, BarStrips x, String before) {
        String now = told(x);
        if (!now.equals(before)) {
            wrong++;
            System.out.println(call + " changed what is told from " + before + " to " + now);
        }
    }
}
