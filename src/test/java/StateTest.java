/** Promises 12 to 19: widths and settings, the text, the history. */
public final class StateTest {
    public static void main(String[] args) {
        width();
        set();
        type();
        clearText();
        fault();
        undo();
        keep();
        restore();
        Checks.finish();
    }

    private static void due(String call, double got, double want) {
        Checks.due(call, got, want);
    }

    private static void width() {
        BarStrips x = Checks.chart(0, 0, 20);
        String before = Checks.told(x);
        due("from below", x.width(-1, 0, 1), Checks.BAD_VALUE);
        due("from above", x.width(200, 200, 1), Checks.BAD_VALUE);
        due("to above", x.width(0, 200, 1), Checks.BAD_VALUE);
        due("to ahead of from", x.width(5, 4, 1), Checks.BAD_VALUE);
        due("width below", x.width(0, 0, 0), Checks.BAD_VALUE);
        due("width above", x.width(0, 0, 10), Checks.BAD_VALUE);
        due("none had another one", x.width(3, 9, 2), Checks.NONE);
        Checks.same("errors", x, before);
        due("ten days", x.width(0, 9, 5), 10);
        due("five of ten", x.width(5, 14, 5), 5);
        due("none of fifteen", x.width(0, 14, 5), Checks.NONE);
        due("one day", x.width(3, 3, 1), 1);
        due("width of the bar", x.barOf(0, 5), 14 * 5 + 1 + 5 * 2);
        due("all days", x.width(0, 199, 9), 200);
        due("the last day", x.width(199, 199, 1), 1);
        due("width of the bar", x.barOf(0, 5), 180);
        due("undo", x.undo(), 3);
        due("undo", x.undo(), 2);
        due("width of the bar", x.barOf(0, 5), 14 * 5 + 1 + 5 * 2);
        Checks.end(12, "width");
    }

    private static void set() {
        BarStrips x = new BarStrips();
        int[][] bad = {{-1, 0}, {2, 20}, {0, -1}, {0, 3}, {1, 9}, {1, 1000}, {Integer.MAX_VALUE, 0}};
        for (int[] pair : bad) {
            due("set(" + pair[0] + ", " + pair[1] + ")", x.set(pair[0], pair[1]), Checks.BAD_VALUE);
        }
        due("so already", x.set(0, 0), Checks.NONE);
        due("so already", x.set(1, 60), Checks.NONE);
        due("no states", x.count(13), 0);
        due("choice 2", x.set(0, 2), 0);
        due("choice 1", x.set(0, 1), 2);
        due("least strips", x.set(1, 10), 60);
        due("widest strips", x.set(1, 999), 10);
        due("choice", x.count(15), 1);
        due("strips", x.count(16), 999);
        due("undo", x.undo(), 3);
        due("undo", x.undo(), 2);
        due("undo", x.undo(), 1);
        due("choice", x.count(15), 2);
        due("strips", x.count(16), 60);
        Checks.end(13, "set");
    }

    private static void type() {
        BarStrips x = new BarStrips();
        char[] signs = {'1', (char) 0, (char) 255, (char) 65535, ' '};
        for (int i = 0; i < 60; i++) {
            due("type", x.type(signs[i % 5]), i + 1);
        }
        due("60 are there", x.type('1'), Checks.FULL);
        due("length", x.count(14), 60);
        due("no act", x.count(13), 0);
        due("the second is not allowed", x.fault(), 1);
        due("clearText", x.clearText(), 60);
        due("room again", x.type('1'), 1);
        Checks.end(14, "type");
    }

    private static void clearText() {
        BarStrips x = new BarStrips();
        due("empty", x.clearText(), 0);
        Checks.text(x, "0@0+1");
        due("five", x.clearText(), 5);
        due("empty", x.clearText(), 0);
        due("length", x.count(14), 0);
        due("fault", x.fault(), 0);
        due("no act", x.count(13), 0);
        due("no bars", x.addAll(), -100);
        Checks.end(15, "clearText");
    }

    private static void fault() {
        String[] good = {"0>1", "12>3", "9>89", "89>0", "0@0+1", "11@199+30", "9@10+9",
            "10@5+3;0>1;11@19+10", "0>0;0>0", "0@199+30"};
        for (String text : good) {
            faultOf(text, Checks.NONE);
        }
        String[] bad = {"", "1", "12", "8", "0@", "0>", "11@", "0@0", "0@1", "0@0+", "0@0+1;", "0>1;",
            "0>1;0"};
        for (String text : bad) {
            faultOf(text, text.length());
        }
        String[] lastIsBad = {"90", "99", "00", "05", "12@", "89@", "0@200", "0@1999", "0@00", "0@01",
            "0@0+0", "0@0+31", "0@0+300", "0@0+40", "0>90", "0>00", "0>01", ";", "@", ">", "+", "0;",
            "0+", "0@0;", "0@0>", "0@0@", "0@+", "0@>", "0>;", "0>>", "0>1@", "0>1>", "0>1+", "0@0+1@",
            "0@0+1+", "0@0+1>", "0@0+;", "0>1;;", "0>1;12@", "0>1;90", "0>1;00", " ", "0 ", "a", "-",
            "0@0+1x", "0>1;0@0+1;0@0+0", "0/", "0:", "0@0+1;0@3;"};
        for (String text : lastIsBad) {
            faultOf(text, text.length() - 1);
            if (text.length() < 58) {
                faultOf(text + ";0", text.length() - 1);
            }
        }
        Checks.end(16, "fault");
    }

    private static void faultOf(String text, int want) {
        BarStrips x = new BarStrips();
        Checks.text(x, text);
        due("fault of " + text, x.fault(), want);
    }

    private static void undo() {
        BarStrips x = new BarStrips();
        due("empty", x.undo(), Checks.NONE);
        for (int bar = 0; bar < 5; bar++) {
            due("bar " + bar, x.bar(0, bar, 1), bar);
        }
        due("four states", x.count(13), 4);
        due("an error", x.bar(0, 0, 1), Checks.NOT_POSSIBLE);
        due("a NONE", x.move(0, 0, 0), Checks.NONE);
        x.type('1');
        x.keep();
        due("none of them is recorded", x.count(13), 4);
        for (int left = 3; left >= 0; left--) {
            due("undo", x.undo(), left);
            due("bars", x.count(0), left + 1);
            due("bars so far", x.count(10), left + 1);
        }
        due("empty", x.undo(), Checks.NONE);
        due("the oldest state was dropped", x.count(0), 1);
        due("the text is no part of a state", x.count(14), 1);
        due("nor is the snapshot", x.restore(), 5);
        due("undo of a restore", x.undo(), 0);
        due("bars", x.count(0), 1);
        undoEachAct();
        afterCallsThatChangeNothing();
        Checks.end(17, "undo");
    }

    private static void undoEachAct() {
        for (int act = 0; act < 13; act++) {
            BarStrips x = Checks.chart(3, 2, 4, 5, 9, 1, 3, 12, 2);
            Checks.arrows(x, 0, 1, 1, 2);
            x.keep();
            x.set(0, 1);
            Checks.text(x, "0@0+1");
            String before = Checks.told(x);
            due("act " + act + " is done", act(x, act) >= 0 ? 1 : 0, 1);
            due("undo of act " + act, x.undo(), 3);
            String after = Checks.told(x);
            due("act " + act + " is undone", withoutStates(after).equals(withoutStates(before)) ? 1 : 0, 1);
        }
    }

    /** An act that comes after errors, questions and an undo does what it does without them. */
    private static void afterCallsThatChangeNothing() {
        for (int act = 0; act < 13; act++) {
            BarStrips x = Checks.chart(3, 2, 4, 5, 9, 1, 3, 12, 2);
            BarStrips y = Checks.chart(3, 2, 4, 5, 9, 1, 3, 12, 2);
            Checks.arrows(x, 0, 1, 1, 2);
            Checks.arrows(y, 0, 1, 1, 2);
            x.keep();
            y.keep();
            due("swap", x.swap(3, 7), 0);
            due("undo", x.undo(), 3);
            due("bestLane", x.bestLane(1), 0);
            due("pull", x.pull(0), 2);
            due("undo", x.undo(), 3);
            Checks.text(x, "9@50+1;9@50+1");
            due("addAll", x.addAll(), Checks.NOT_POSSIBLE);
            Checks.text(x, "0@0+1");
            Checks.text(y, "0@0+1");
            due("act " + act, act(x, act), act(y, act));
            String same = withoutStates(Checks.told(y));
            due("act " + act + " is the same", same.equals(withoutStates(Checks.told(x))) ? 1 : 0, 1);
            due("undo", x.undo(), y.undo());
            due("bestSwap after act " + act, x.bestSwap(0), y.bestSwap(0));
        }
    }

    private static int act(BarStrips x, int act) {
        switch (act) {
            case 0: return x.bar(0, 0, 1);
            case 1: return x.arrow(0, 2);
            case 2: return x.addAll();
            case 3: return x.takeBar(1);
            case 4: return x.takeArrow(1);
            case 5: return x.move(0, 3, 0);
            case 6: return x.swap(3, 5);
            case 7: return x.pack();
            case 8: return x.slip(0, 9);
            case 9: return x.pull(2);
            case 10: return x.width(0, 9, 4);
            case 11: return x.set(1, 10);
            default: return x.restore();
        }
    }

    /** What is told but for the number of states, which is the fourteenth of the counts. */
    private static String withoutStates(String told) {
        String[] numbers = told.split(" ");
        numbers[13] = "";
        return String.join(" ", numbers);
    }

    private static void keep() {
        BarStrips x = new BarStrips();
        due("no bars", x.keep(), 0);
        x.bar(0, 0, 1);
        x.bar(0, 1, 1);
        due("two bars", x.keep(), 2);
        due("no act", x.count(13), 2);
        x.bar(0, 2, 1);
        due("in place of the one that was", x.restore(), 2);
        due("keep again", x.keep(), 2);
        Checks.end(18, "keep");
    }

    private static void restore() {
        BarStrips x = Checks.chart(0, 0, 1, 1, 5, 2);
        due("no snapshot", x.restore(), Checks.NONE);
        due("no act", x.count(13), 2);
        Checks.arrows(x, 0, 1);
        x.set(1, 10);
        x.width(0, 0, 9);
        x.slip(1, 3);
        String kept = Checks.told(x);
        due("keep", x.keep(), 2);
        x.slip(1, 3);
        x.takeBar(0);
        x.set(1, 11);
        x.width(0, 0, 2);
        x.bar(4, 4, 4);
        x.bar(4, 8, 4);
        due("restore", x.restore(), 2);
        Checks.same("restore", x, kept);
        due("the snapshot stays", x.restore(), 2);
        due("numbers are as they were", x.bar(4, 4, 4), 2);
        due("undo", x.undo(), 3);
        due("undo", x.undo(), 2);
        due("undo of the restore", x.undo(), 1);
        due("bars", x.count(0), 3);
        due("so far", x.count(10), 4);
        Checks.end(19, "restore");
    }
}
