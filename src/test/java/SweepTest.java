import java.lang.reflect.InvocationTargetException;
import java.lang.reflect.Method;
import java.util.ArrayList;
import java.util.List;

/**
 * Each argument of each call goes through all its values and some beyond on both sides, on new objects,
 * and the program is held against NaiveStrips: so each bound, also one that only this chart sets, is
 * met from both sides.
 */
public final class SweepTest {
    private static final String SOME = """
        bar(0, 5, 3) 0
        bar(3, 12, 4) 1
        bar(0, 20, 5) 2
        bar(5, 0, 2) 3
        bar(2, 4, 9) 4
        bar(11, 171, 29) 5
        bar(0, 9, 1) 6
        arrow(0, 1) 0
        arrow(3, 1) 1
        arrow(3, 2) 2
        arrow(4, 0) 3
        arrow(3, 5) 4
        takeArrow(1) 1
        takeBar(6) 0
        set(1, 11) 60
        width(3, 8, 4) 6
        """;
    private static final String FULL = """
        for 0..11: bar(#, 0, 1) #
        for 12..20: bar(#-12, 2, 3) #
        for 21..29: bar(#-21, 5, 1) #
        for 12..21: arrow(0, #) #-12
        for 12..21: arrow(1, #) #-2
        for 12..21: arrow(2, #) #+8
        for 12..21: arrow(3, #) #+18
        """;
    private static final String[] CALLS = {"bar 4 60 2", "bar 0 8 1", "bar 11 199 1", "arrow 3 1",
        "arrow 1 5", "takeBar 0", "takeArrow 0", "move 0 4 60", "move 5 11 171", "move 4 0 10", "swap 0 1",
        "swap 11 4", "slip 0 1", "slip 3 30", "pull 0", "width 0 199 2", "width 5 60 4", "set 0 1", "set 1 60",
        "barOf 0 0", "barOf 4 6", "arrowOf 0 0", "arrowOf 4 6", "reason 0 5", "reason 4 100", "cell 0 5",
        "cell 11 199", "strip 0 0", "count 0", "latest 0", "ifSlipped 0 1", "ifSlipped 5 30", "bestSwap 0",
        "bestLane 0"};

    private static final int[] ALL_COUNTS = {0, 1, 2, 3, 4, 5, 6, 7, 8, 9, 10, 11, 12, 13, 14, 15, 16};
    /** Those that NaiveStrips tells fast. */
    private static final int[] SOME_COUNTS = {0, 1, 2, 6, 10, 11, 12, 13, 15, 16};

    public static void main(String[] args) {
        for (String call : CALLS) {
            sweep("some bars", SOME, call.split(" "));
            sweep("30 bars, 40 arrows", FULL, call.split(" "));
        }
        Run.finish();
    }

    private static void sweep(String name, String chart, String[] words) {
        List<Run.Step> steps = Run.steps(chart);
        for (int place = 1; place < words.length; place++) {
            StringBuilder wrong = new StringBuilder();
            for (int value : values(words[0])) {
                String[] swept = words.clone();
                swept[place] = String.valueOf(value);
                wrong.append(compare(steps, swept, chart.equals(SOME) ? ALL_COUNTS : SOME_COUNTS));
            }
            Run.report("sweep with " + name + ": argument " + place + " of " + String.join(" ", words),
                wrong.toString());
        }
    }

    private static List<Integer> values(String call) {
        List<Integer> values = new ArrayList<>();
        int last = call.equals("set") ? 1002 : 203;
        for (int value = -3; value <= last; value++) {
            values.add(value);
        }
        int[] far = {Integer.MIN_VALUE, Integer.MIN_VALUE + 1, -1_000_000, 1 << 16, Integer.MAX_VALUE - 30,
            Integer.MAX_VALUE};
        for (int value : far) {
            values.add(value);
        }
        return values;
    }

    private static String compare(List<Run.Step> steps, String[] words, int[] counts) {
        BarStrips program = new BarStrips();
        NaiveStrips model = new NaiveStrips();
        for (Run.Step step : steps) {
            step.call.on(program);
            naive(model, step.call.words.split("[(), ]+"));
        }
        double got = new Run.Call(words[0], arguments(words)).on(program);
        double due = naive(model, words);
        StringBuilder wrong = new StringBuilder();
        if (got != due) {
            wrong.append("  " + String.join(" ", words) + " answered " + got + ", due is " + due + "\n");
        }
        for (int what : counts) {
            if (program.count(what) != model.count(what)) {
                wrong.append("  behind " + String.join(" ", words) + " count(" + what + ") answered "
                    + program.count(what) + ", due is " + model.count(what) + "\n");
            }
        }
        return wrong.toString();
    }

    private static String arguments(String[] words) {
        return String.join(", ", List.of(words).subList(1, words.length));
    }

    private static double naive(NaiveStrips model, String[] words) {
        Object[] values = new Object[words.length - 1];
        for (int i = 0; i < values.length; i++) {
            values[i] = Integer.valueOf(words[i + 1]);
        }
        try {
            return ((Number) methodOf(words[0]).invoke(model, values)).doubleValue();
        } catch (IllegalAccessException | InvocationTargetException e) {
            throw new IllegalStateException(words[0], e);
        }
    }

    private static Method methodOf(String name) {
        for (Method m : NaiveStrips.class.getDeclaredMethods()) {
            if (m.getName().equals(name)) {
                return m;
            }
        }
        throw new IllegalArgumentException(name);
    }
}
