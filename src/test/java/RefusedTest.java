import java.util.ArrayList;
import java.util.Arrays;
import java.util.List;

/**
 * A call that returns an error or NONE changes nothing, and neither does a question: whatever is asked
 * or done behind it is answered as without it. No object is asked more than its 512 calls: new ones
 * are brought to the same place.
 */
public final class RefusedTest {
    private static final String EMPTY = "";
    private static final String SOME = """
        bar(0, 5, 3) 0
        bar(3, 12, 4) 1
        bar(0, 20, 5) 2
        bar(5, 0, 2) 3
        bar(2, 4, 9) 4
        bar(11, 195, 5) 5
        arrow(0, 1) 0
        arrow(3, 1) 1
        arrow(3, 2) 2
        arrow(4, 0) 3
        takeArrow(1) 1
        takeBar(2) 1
        keep() 5
        slip(0, 1) 1
        set(0, 2) 0
        set(1, 11) 60
        width(3, 8, 4) 6
        arrow(3, 5) 4
        move(4, 2, 5) 2
        text 1@50+2;4@50+3;0>5
        """;
    private static final String NO_HISTORY = """
        bar(0, 5, 3) 0
        bar(0, 8, 4) 1
        arrow(0, 1) 0
        set(0, 1) 0
        set(0, 2) 1
        set(0, 1) 2
        set(0, 0) 1
        undo() 3
        undo() 2
        undo() 1
        undo() 0
        text 0@0+3;0@4+9;x
        """;
    private static final String FULL = """
        for 0..11: bar(#, 0, 1) #
        for 12..20: bar(#-12, 2, 3) #
        for 21..29: bar(#-21, 5, 1) #
        for 12..21: arrow(0, #) #-12
        for 12..21: arrow(1, #) #-2
        for 12..21: arrow(2, #) #+8
        for 12..21: arrow(3, #) #+18
        text 9@9+9;9@19+9;9@29+9;9@39+9;9@49+9;9@59+9;9@69+9;9@79+9;9@8+1
        """;
    private static final String BARS_CAME = """
        for 0..88: bar(0, 0, 1) # | takeBar(#) 0
        bar(0, 0, 1) 89
        text 0@5+5
        """;
    private static final String ARROWS_CAME = """
        bar(0, 0, 1) 0
        bar(0, 1, 1) 1
        bar(0, 2, 1) 2
        for 0..198: arrow(0, 1) # | takeArrow(#) 1
        arrow(0, 1) 199
        text 0>2
        """;

    private static final String LAST_PART = """
        bar(0, 5, 3) 0
        bar(3, 12, 4) 1
        arrow(0, 1) 0
        width(3, 8, 4) 6
        text 1@5+2;4@50+3;0>2;2>3;1>3;5@60+5;3>0
        """;

    private static final String[] OFTEN_REFUSED = {
        "bar(-1, 0, 1) UNKNOWN", "bar(12, 0, 1) UNKNOWN", "bar(1, -1, 1) BAD_VALUE",
        "bar(1, 200, 1) BAD_VALUE", "bar(1, 30, 0) BAD_VALUE", "bar(1, 30, 31) BAD_VALUE",
        "bar(1, 171, 30) BAD_VALUE", "bar(1, MAX, MAX) BAD_VALUE",
        "arrow(-1, 0) UNKNOWN", "arrow(0, 90) UNKNOWN",
        "takeBar(-1) UNKNOWN", "takeBar(90) UNKNOWN", "takeArrow(-1) UNKNOWN", "takeArrow(200) UNKNOWN",
        "move(-1, 0, 0) UNKNOWN", "move(90, 0, 0) UNKNOWN",
        "swap(-1, 0) UNKNOWN", "swap(0, 12) UNKNOWN", "swap(4, 4) NONE",
        "slip(-1, 1) UNKNOWN", "slip(90, 1) UNKNOWN", "pull(-1) UNKNOWN", "pull(90) UNKNOWN",
        "width(-1, 5, 1) BAD_VALUE", "width(5, 200, 1) BAD_VALUE", "width(5, 4, 1) BAD_VALUE",
        "width(0, 199, 0) BAD_VALUE", "width(0, 199, 10) BAD_VALUE", "width(100, 199, 2) NONE",
        "set(-1, 1) BAD_VALUE", "set(2, 1) BAD_VALUE", "set(0, -1) BAD_VALUE", "set(0, 3) BAD_VALUE",
        "set(1, 9) BAD_VALUE", "set(1, 1000) BAD_VALUE",
        "barOf(-1, 0) UNKNOWN", "barOf(90, 0) UNKNOWN", "arrowOf(-1, 0) UNKNOWN",
        "arrowOf(200, 0) UNKNOWN", "reason(-1, 5) UNKNOWN", "reason(200, 5) UNKNOWN",
        "cell(-1, 0) UNKNOWN", "cell(12, 0) UNKNOWN", "cell(0, -1) UNKNOWN", "cell(0, 200) UNKNOWN",
        "strip(-1, 0) BAD_VALUE", "strip(0, -1) BAD_VALUE", "strip(0, 5) BAD_VALUE", "strip(200, 0) NONE",
        "count(-1) BAD_VALUE", "count(17) BAD_VALUE", "latest(-1) UNKNOWN", "latest(90) UNKNOWN",
        "ifSlipped(-1, 1) UNKNOWN", "ifSlipped(90, 1) UNKNOWN", "bestSwap(-1) BAD_VALUE",
        "bestSwap(4) BAD_VALUE", "bestLane(-1) UNKNOWN", "bestLane(90) UNKNOWN"};
    private static final String[] QUESTIONS = {
        "barOf(0, 6) *", "barOf(0, 9) *", "barOf(0, 10) *", "arrowOf(0, 2) *", "arrowOf(0, 5) *",
        "arrowOf(0, 6) *", "arrowOf(0, 7) *", "reason(0, 9) *", "cell(0, 5) *", "strip(1, 3) *",
        "count(3) *", "count(5) *", "count(7) *", "count(9) *", "latest(0) *", "longest() *", "share() *",
        "ifSlipped(0, 30) *", "bestSwap(0) *", "bestSwap(3) *", "bestLane(0) *", "bestLane(1) *",
        "fault() *"};
    /** What is done behind the refused call, ahead of the questions. */
    private static final String[] BEHIND = {"", "undo() *", "undo() * | undo() *",
        "undo() * | undo() * | undo() * | undo() * | undo() *", "restore() *", "restore() * | undo() *",
        "addAll() *", "type('7') * | addAll() *", "clearText() * | addAll() *", "bar(9, 100, 3) *",
        "arrow(1, 2) *", "takeBar(0) *", "takeArrow(0) *", "move(0, 11, 60) *", "swap(0, 11) *", "pack() *",
        "slip(0, 2) *", "pull(0) *", "width(0, 9, 1) *", "set(1, 20) *", "keep() * | restore() *"};

    private static final List<Run.Call> ASKED = asked();

    public static void main(String[] args) {
        refuse("the empty chart", EMPTY, OFTEN_REFUSED, QUESTIONS, new String[] {
            "arrow(0, 1) UNKNOWN", "addAll() -100", "takeBar(0) UNKNOWN", "takeArrow(0) UNKNOWN",
            "move(0, 0, 0) UNKNOWN", "swap(0, 1) NONE", "pack() NONE", "slip(0, 1) UNKNOWN",
            "pull(0) UNKNOWN", "width(0, 199, 2) NONE", "set(0, 0) NONE", "set(1, 60) NONE", "fault() 0",
            "clearText() 0", "undo() NONE", "restore() NONE", "barOf(0, 0) UNKNOWN",
            "arrowOf(0, 0) UNKNOWN", "strip(0, 0) NONE", "cell(0, 0) NONE", "bestSwap(0) NONE"});
        refuse("some bars", SOME, OFTEN_REFUSED, QUESTIONS, new String[] {
            "bar(2, 13, 1) NOT_POSSIBLE", "bar(2, 0, 6) NOT_POSSIBLE", "arrow(2, 0) UNKNOWN",
            "arrow(0, 6) UNKNOWN", "arrow(0, 0) NOT_POSSIBLE", "arrow(0, 1) NOT_POSSIBLE",
            "arrow(1, 4) NOT_POSSIBLE", "takeBar(2) UNKNOWN", "takeBar(6) UNKNOWN", "takeArrow(1) UNKNOWN",
            "takeArrow(5) UNKNOWN", "move(0, 12, 5) UNKNOWN", "move(0, -1, 5) UNKNOWN",
            "move(0, 0, -1) BAD_VALUE", "move(0, 0, 198) BAD_VALUE", "move(0, 0, 200) BAD_VALUE",
            "move(0, 0, 6) NONE", "move(0, 2, 13) NOT_POSSIBLE", "move(0, 3, 10) NOT_POSSIBLE",
            "swap(1, 4) NONE", "swap(2, 2) NONE", "slip(0, 0) BAD_VALUE", "slip(0, 31) BAD_VALUE",
            "slip(5, 1) NOT_POSSIBLE", "pull(3) NONE", "width(3, 8, 4) NONE", "set(0, 2) NONE",
            "set(1, 11) NONE", "barOf(0, -1) BAD_VALUE", "barOf(0, 12) BAD_VALUE", "barOf(0, 11) NONE",
            "barOf(2, 11) UNKNOWN", "arrowOf(0, -1) BAD_VALUE", "arrowOf(0, 8) BAD_VALUE",
            "arrowOf(3, 2) NONE", "arrowOf(1, 2) UNKNOWN", "strip(100, 0) NONE", "cell(0, 5) NONE",
            "ifSlipped(0, 0) BAD_VALUE", "ifSlipped(0, 31) BAD_VALUE"});
        refuse("no history", NO_HISTORY, new String[] {
            "undo() NONE", "restore() NONE", "addAll() -112", "fault() 12", "pack() NONE", "pull(1) NONE",
            "bar(0, 7, 1) NOT_POSSIBLE", "arrow(1, 0) NOT_POSSIBLE", "move(1, 0, 7) NOT_POSSIBLE",
            "set(0, 0) NONE", "bestSwap(1) NONE"}, QUESTIONS);
        refuse("30 bars, 40 arrows, 60 characters", FULL, new String[] {
            "bar(11, 50, 1) FULL", "bar(0, 2, 1) NOT_POSSIBLE", "arrow(4, 13) FULL",
            "arrow(12, 0) NOT_POSSIBLE", "arrow(0, 12) NOT_POSSIBLE", "addAll() FULL", "type('0') FULL",
            "slip(0, 31) BAD_VALUE", "move(0, 1, 0) NOT_POSSIBLE", "bestSwap(0) NONE", "bestSwap(2) *",
            "bestLane(12) *", "arrowOf(39, 6) *", "ifSlipped(0, 30) *"});
        refuse("90 bars came", BARS_CAME, new String[] {
            "bar(0, 1, 1) FULL", "bar(0, 0, 1) NOT_POSSIBLE", "addAll() FULL", "takeBar(88) UNKNOWN",
            "pull(89) NONE", "move(89, 0, 0) NONE", "pack() NONE"});
        refuse("200 arrows came", ARROWS_CAME, new String[] {
            "arrow(0, 2) FULL", "arrow(0, 1) NOT_POSSIBLE", "addAll() FULL", "takeArrow(198) UNKNOWN",
            "arrowOf(198, 0) UNKNOWN"});
        refuse("a text whose last part is refused", LAST_PART, new String[] {"addAll() NOT_POSSIBLE"});
        Run.finish();
    }

    private static void refuse(String name, String chart, String[]... calls) {
        List<Run.Step> start = Run.steps(chart);
        List<double[]> due = shown(start);
        for (String[] group : calls) {
            for (String call : group) {
                List<Run.Step> steps = new ArrayList<>(start);
                steps.addAll(Run.steps(call));
                Run.report((call.endsWith("*") ? "asked" : "refused") + " with " + name + ": " + call.replace(" *", ""),
                    differences(due, shown(steps)) + wrong(steps));
            }
        }
    }

    private static String wrong(List<Run.Step> steps) {
        BarStrips x = new BarStrips();
        StringBuilder wrong = new StringBuilder();
        for (Run.Step step : steps) {
            String words = step.on(x);
            wrong.append(words == null ? "" : "  " + words + "\n");
        }
        return wrong.toString();
    }

    /** For each row of BEHIND what is answered then. */
    private static List<double[]> shown(List<Run.Step> start) {
        List<double[]> shown = new ArrayList<>();
        for (String behind : BEHIND) {
            shown.add(answers(start, Run.steps(behind), behind.isEmpty() || behind.startsWith("undo")));
        }
        return shown;
    }

    private static double[] answers(List<Run.Step> start, List<Run.Step> behind, boolean all) {
        int questions = all ? ASKED.size() : 400;
        double[] answers = new double[behind.size() + questions];
        int next = 0;
        while (next < questions) {
            BarStrips x = new BarStrips();
            for (Run.Step step : start) {
                step.call.on(x);
            }
            for (int i = 0; i < behind.size(); i++) {
                answers[i] = behind.get(i).call.on(x);
            }
            int left = Run.MOST_CALLS - start.size() - behind.size();
            for (int i = 0; i < left && next < questions; i++) {
                answers[behind.size() + next] = ASKED.get(next).on(x);
                next++;
            }
        }
        return answers;
    }

    private static String differences(List<double[]> due, List<double[]> got) {
        StringBuilder differences = new StringBuilder();
        for (int row = 0; row < BEHIND.length; row++) {
            if (!Arrays.equals(due.get(row), got.get(row))) {
                int at = Arrays.mismatch(due.get(row), got.get(row));
                differences.append("  behind it, \"" + BEHIND[row] + "\", answer " + at + " is "
                    + got.get(row)[at] + ", due is " + due.get(row)[at] + "\n");
            }
        }
        return differences.toString();
    }

    /** The questions, those first that show the most. */
    private static List<Run.Call> asked() {
        List<Run.Call> asked = new ArrayList<>();
        ask(asked, "count(#)", 17);
        ask(asked, "barOf(#, 0)", 30);
        ask(asked, "barOf(#, 1)", 30);
        ask(asked, "barOf(#, 2)", 30);
        ask(asked, "barOf(#, 5)", 30);
        ask(asked, "barOf(#, 6)", 10);
        ask(asked, "arrowOf(#, 0)", 40);
        ask(asked, "arrowOf(#, 1)", 40);
        ask(asked, "arrowOf(#, 2)", 10);
        ask(asked, "bestSwap(#)", 4);
        ask(asked, "latest(#)", 10);
        ask(asked, "bestLane(#)", 10);
        ask(asked, "strip(#, 0)", 40);
        ask(asked, "cell(0, #)", 100);
        asked.add(new Run.Call("fault", ""));
        asked.add(new Run.Call("longest", ""));
        asked.add(new Run.Call("share", ""));
        for (int what = 0; what < 12; what++) {
            ask(asked, "barOf(#, " + what + ")", 90);
        }
        for (int what = 0; what < 8; what++) {
            ask(asked, "arrowOf(#, " + what + ")", 41);
        }
        ask(asked, "arrowOf(#, 0)", 200);
        for (int lane = 0; lane < 12; lane++) {
            ask(asked, "cell(" + lane + ", #)", 200);
        }
        for (int arrow = 0; arrow < 8; arrow++) {
            ask(asked, "reason(" + arrow + ", #)", 30);
        }
        for (int what = 0; what < 5; what++) {
            ask(asked, "strip(#, " + what + ")", 80);
        }
        ask(asked, "ifSlipped(#, 30)", 90);
        return asked;
    }

    private static void ask(List<Run.Call> asked, String words, int many) {
        String name = words.substring(0, words.indexOf('('));
        String arguments = words.substring(words.indexOf('(') + 1, words.length() - 1);
        for (int i = 0; i < many; i++) {
            asked.add(new Run.Call(name, arguments.replace("#", String.valueOf(i))));
        }
    }
}
