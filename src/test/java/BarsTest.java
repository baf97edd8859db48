/** Promises 1 to 6: a new object; bars and arrows that come and go. */
public final class BarsTest {
    public static void main(String[] args) {
        newObject();
        bar();
        arrow();
        addAll();
        takeBar();
        takeArrow();
        Checks.finish();
    }

    private static void due(String call, double got, double want) {
        Checks.due(call, got, want);
    }

    private static void newObject() {
        due("UNKNOWN", BarStrips.UNKNOWN, -1);
        due("BAD_VALUE", BarStrips.BAD_VALUE, -2);
        due("FULL", BarStrips.FULL, -3);
        due("NOT_POSSIBLE", BarStrips.NOT_POSSIBLE, -4);
        due("NONE", BarStrips.NONE, -5);
        BarStrips x = new BarStrips();
        for (int what = 0; what <= 15; what++) {
            due("count(" + what + ")", x.count(what), 0);
        }
        due("width of strips", x.count(16), 60);
        due("cell", x.cell(0, 0), Checks.NONE);
        due("strip", x.strip(0, 0), Checks.NONE);
        due("undo", x.undo(), Checks.NONE);
        due("restore", x.restore(), Checks.NONE);
        due("widths are 2", x.width(0, 199, 2), Checks.NONE);
        due("no bar 0", x.barOf(0, 0), Checks.UNKNOWN);
        due("no arrow 0", x.arrowOf(0, 0), Checks.UNKNOWN);
        due("text", x.fault(), 0);
        due("share", x.share(), 0.0);
        due("longest", x.longest(), 0);
        Checks.end(1, "a new object");
    }

    private static void bar() {
        BarStrips x = Checks.chart(0, 2, 3);
        String before = Checks.told(x);
        due("lane below", x.bar(-1, -1, 0), Checks.UNKNOWN);
        due("lane above", x.bar(12, 300, 1), Checks.UNKNOWN);
        due("day below", x.bar(0, -1, 1), Checks.BAD_VALUE);
        due("day above", x.bar(0, 200, 1), Checks.BAD_VALUE);
        due("no days", x.bar(0, 2, 0), Checks.BAD_VALUE);
        due("too many days", x.bar(0, 2, 31), Checks.BAD_VALUE);
        due("very many days", x.bar(0, 199, Integer.MAX_VALUE), Checks.BAD_VALUE);
        due("end above 200", x.bar(0, 171, 30), Checks.BAD_VALUE);
        due("its last day is taken", x.bar(0, 0, 3), Checks.NOT_POSSIBLE);
        due("its first day is taken", x.bar(0, 4, 1), Checks.NOT_POSSIBLE);
        due("over all of the other", x.bar(0, 0, 9), Checks.NOT_POSSIBLE);
        Checks.same("errors", x, before);
        due("close ahead", x.bar(0, 0, 2), 1);
        due("close behind", x.bar(0, 5, 1), 2);
        due("the same days in another lane", x.bar(11, 2, 3), 3);
        due("an end of 200", x.bar(0, 170, 30), 4);
        due("states", x.count(13), 4);
        thirtyBars(x);
        ninetyBars();
        Checks.end(2, "bar");
    }

    private static void thirtyBars(BarStrips x) {
        for (int i = 5; i < 30; i++) {
            due("bar " + i, x.bar(5, i, 1), i);
        }
        due("taken, ahead of full", x.bar(5, 6, 1), Checks.NOT_POSSIBLE);
        due("bad, ahead of full", x.bar(5, 6, 31), Checks.BAD_VALUE);
        due("30 are there", x.bar(6, 6, 1), Checks.FULL);
        due("one goes", x.takeBar(7), 0);
        due("one comes", x.bar(6, 6, 1), 30);
    }

    private static void ninetyBars() {
        BarStrips x = new BarStrips();
        for (int i = 0; i < 90; i++) {
            due("bar " + i, x.bar(0, 0, 1), i);
            due("one goes", x.takeBar(i), 0);
        }
        due("90 came", x.bar(0, 0, 1), Checks.FULL);
        due("so far", x.count(10), 90);
        due("undo", x.undo(), 3);
        due("undo", x.undo(), 2);
        due("the last number once more", x.bar(0, 0, 1), 89);
    }

    private static void arrow() {
        BarStrips x = Checks.chart(0, 0, 2, 1, 4, 2, 2, 8, 2, 3, 1, 2);
        due("from no bar", x.arrow(4, 0), Checks.UNKNOWN);
        due("to no bar", x.arrow(0, -1), Checks.UNKNOWN);
        due("to itself", x.arrow(1, 1), Checks.NOT_POSSIBLE);
        due("a first one", x.arrow(0, 1), 0);
        due("there is one", x.arrow(0, 1), Checks.NOT_POSSIBLE);
        due("the way back", x.arrow(1, 0), Checks.NOT_POSSIBLE);
        due("a second one", x.arrow(1, 2), 1);
        due("a late one", x.arrow(2, 3), 2);
        due("a ring with a late one", x.arrow(3, 0), Checks.NOT_POSSIBLE);
        due("no ring", x.arrow(0, 3), 3);
        due("arrows", x.count(1), 4);
        due("bar 1 goes", x.takeBar(1), 2);
        due("a ring of two", x.arrow(3, 0), Checks.NOT_POSSIBLE);
        due("arrow 3 goes", x.takeArrow(3), 3);
        due("no ring any more", x.arrow(3, 0), 4);
        due("to a bar that went", x.arrow(3, 1), Checks.UNKNOWN);
        due("states", x.count(13), 4);
        longRing();
        fortyArrows();
        twoHundredArrows();
        Checks.end(3, "arrow");
    }

    /** A ring of arrows that came in the order in which it is not walked along. */
    private static void longRing() {
        BarStrips x = Checks.chart(0, 0, 1, 0, 1, 1, 0, 2, 1, 0, 3, 1, 0, 4, 1);
        Checks.arrows(x, 3, 4, 2, 3, 1, 2, 0, 1);
        due("a ring of five", x.arrow(4, 0), Checks.NOT_POSSIBLE);
        due("no ring", x.arrow(0, 4), 4);
    }

    private static void fortyArrows() {
        BarStrips x = new BarStrips();
        for (int bar = 0; bar < 14; bar++) {
            due("bar " + bar, x.bar(0, bar, 1), bar);
        }
        for (int i = 0; i < 40; i++) {
            due("arrow " + i, x.arrow(i / 10, 4 + i % 10), i);
        }
        due("40 are there", x.arrow(0, 1), Checks.FULL);
        due("there is one, ahead of full", x.arrow(0, 4), Checks.NOT_POSSIBLE);
        due("a ring, ahead of full", x.arrow(4, 0), Checks.NOT_POSSIBLE);
        due("no bar, ahead of full", x.arrow(14, 0), Checks.UNKNOWN);
        due("one goes", x.takeArrow(39), 13);
        due("one comes", x.arrow(0, 1), 40);
    }

    private static void twoHundredArrows() {
        BarStrips x = Checks.chart(0, 0, 1, 0, 1, 1);
        for (int i = 0; i < 200; i++) {
            due("arrow " + i, x.arrow(i % 2, 1 - i % 2), i);
            due("one goes", x.takeArrow(i), 1 - i % 2);
        }
        due("200 came", x.arrow(0, 1), Checks.FULL);
        due("so far", x.count(11), 200);
    }

    private static void addAll() {
        BarStrips x = new BarStrips();
        due("the empty text", x.addAll(), -100);
        Checks.text(x, "0@0+3;1@5+2;0>1");
        due("three parts", x.addAll(), 3);
        due("bars", x.count(0), 2);
        due("arrows", x.count(1), 1);
        due("one act", x.count(13), 1);
        due("the text stays", x.count(14), 15);
        Checks.lanes(x, 0, 1);
        Checks.firstDays(x, 0, 5);
        due("days", x.barOf(0, 2), 3);
        due("to", x.arrowOf(0, 1), 1);
        addAllErrors(x);
        due("undo", x.undo(), 0);
        due("none is left", x.count(0), 0);
        due("none came", x.count(10), 0);
        fifteenParts(x);
        noRoomForAll();
        Checks.end(4, "addAll");
    }

    private static void addAllErrors(BarStrips x) {
        String[] texts = {"0@0+3", "2@0+1;x", "2@0+1;", "2@0+1;0>9", "2@0+1;2@199+2", "2@0+1;2>2",
            "3@0+3;3@2+1", "2@0+1;1>0", "2@0+1;0>2;2>1;1>0", "2@0+1;0@3", "9>9", "89>0;0@0"};
        int[] answers = {Checks.NOT_POSSIBLE, -106, -106, Checks.UNKNOWN, Checks.BAD_VALUE,
            Checks.NOT_POSSIBLE, Checks.NOT_POSSIBLE, Checks.NOT_POSSIBLE, Checks.NOT_POSSIBLE, -109,
            Checks.UNKNOWN, -108};
        for (int i = 0; i < texts.length; i++) {
            Checks.text(x, texts[i]);
            String before = Checks.told(x);
            due("addAll of " + texts[i], x.addAll(), answers[i]);
            Checks.same(texts[i], x, before);
        }
    }

    private static void fifteenParts(BarStrips x) {
        Checks.text(x, "0@0+1;0@1+1;0@2+1;0@3+1;0@4+1;0@5+1;0>1;1>2;2>3;3>4;4>5");
        due("eleven parts", x.addAll(), 11);
        due("the last arrow leads to", x.arrowOf(4, 1), 5);
        Checks.text(x, "0>2;0>3;0>4;0>5;1>3;1>4;1>5;2>4;2>5;3>5;5>0;0>6;0>6;0>6;0>6;");
        due("fifteen parts and a semicolon", x.addAll(), -160);
        x.clearText();
        for (char sign : "0>2;0>3;0>4;0>5;1>3;1>4;1>5;2>4;2>5;3>5;5>0;0>6;0>6;0>6;0>6".toCharArray()) {
            x.type(sign);
        }
        due("a ring, ahead of an unknown bar", x.addAll(), Checks.NOT_POSSIBLE);
        due("undo", x.undo(), 0);
        Checks.text(x, "0@0+1;0@1+1;0@2+1;0@3+1;0@4+1;0@5+1");
        due("six parts", x.addAll(), 6);
        Checks.text(x, "0>1;0>2;0>3;0>4;0>5;1>2;1>3;1>4;1>5;2>3;2>4;2>5;3>4;3>5;4>5");
        due("fifteen parts", x.addAll(), 15);
        due("the last arrow leads from", x.arrowOf(14, 0), 4);
        due("arrows", x.count(1), 15);
        due("states", x.count(13), 2);
    }

    private static void noRoomForAll() {
        BarStrips x = new BarStrips();
        for (int bar = 0; bar < 29; bar++) {
            due("bar " + bar, x.bar(0, bar, 1), bar);
        }
        Checks.text(x, "1@0+1;1@1+1");
        String before = Checks.told(x);
        due("room for one", x.addAll(), Checks.FULL);
        Checks.same("room for one", x, before);
        due("one goes", x.takeBar(4), 0);
        due("room for two", x.addAll(), 2);
        due("bars", x.count(0), 30);
        due("so far", x.count(10), 31);
    }

    private static void takeBar() {
        BarStrips x = Checks.chart(0, 0, 2, 1, 4, 2, 2, 8, 2, 3, 12, 2);
        Checks.arrows(x, 0, 1, 1, 2, 2, 3, 1, 3);
        due("no bar", x.takeBar(4), Checks.UNKNOWN);
        due("below", x.takeBar(-1), Checks.UNKNOWN);
        due("three arrows go with it", x.takeBar(1), 3);
        due("it is gone", x.takeBar(1), Checks.UNKNOWN);
        due("bars", x.count(0), 3);
        due("arrows", x.count(1), 1);
        due("so far", x.count(10), 4);
        due("arrow 0", x.arrowOf(0, 0), Checks.UNKNOWN);
        due("arrow 2 leads from", x.arrowOf(2, 0), 2);
        due("arrow 2 leads to", x.arrowOf(2, 1), 3);
        due("bar 2", x.barOf(2, 1), 8);
        due("no arrow goes with it", x.takeBar(0), 0);
        due("arrow 2 leads from", x.arrowOf(2, 0), 2);
        due("undo", x.undo(), 3);
        due("undo", x.undo(), 2);
        due("bar 1 is back", x.barOf(1, 1), 4);
        due("arrow 1 is back", x.arrowOf(1, 1), 2);
        Checks.end(5, "takeBar");
    }

    private static void takeArrow() {
        BarStrips x = Checks.chart(0, 0, 2, 1, 4, 2, 2, 8, 2);
        Checks.arrows(x, 0, 2, 0, 1);
        due("no arrow", x.takeArrow(2), Checks.UNKNOWN);
        due("below", x.takeArrow(-1), Checks.UNKNOWN);
        due("it led to bar 2", x.takeArrow(0), 2);
        due("it is gone", x.takeArrow(0), Checks.UNKNOWN);
        due("arrows", x.count(1), 1);
        due("the other one leads to", x.arrowOf(1, 1), 1);
        due("a new number", x.arrow(0, 2), 2);
        due("so far", x.count(11), 3);
        due("undo", x.undo(), 3);
        due("undo", x.undo(), 2);
        due("arrow 0 is back", x.arrowOf(0, 1), 2);
        Checks.end(6, "takeArrow");
    }
}
