import java.lang.reflect.Method;
import java.util.ArrayList;
import java.util.List;
import java.util.regex.Matcher;
import java.util.regex.Pattern;

/**
 * A run of calls told in lines, each a call and behind it the answer that is due:
 *
 * <pre>
 * bar(0, 2, 3) 0            a call; UNKNOWN, NONE and so on stand for their numbers, MIN and MAX for
 *                           the least and the greatest int, * for any answer
 * cell(0, #) NONE NONE 0    the same call with 0, 1, 2 in place of #, and an answer for each
 * for 0..29: bar(#, 0, 1) # the calls of the line with 0 to 29 in place of #; #+2, #-2, 9-# are reckoned
 * takeBar(0) 0 | undo() 0   two calls in a line
 * text 0@0+3;0>1            clearText(), and type() for each character up to the end of the line
 * </pre>
 *
 * A run is played on a new object and has 512 calls at most, as more are not promised.
 */
final class Run {
    static final int MOST_CALLS = 512;
    private static final int MOST_WRONG = 10;

    private static final Pattern CALL = Pattern.compile("(\\w+)\\((.*)\\) +(.+)");
    private static final Pattern LOOP = Pattern.compile("for (\\d+)\\.\\.(\\d+): (.*)");
    private static final Pattern RECKONED = Pattern.compile("(\\d+)-#|#\\+(\\d+)|#-(\\d+)|#");
    private static final String[] NAMES = {"UNKNOWN", "BAD_VALUE", "FULL", "NOT_POSSIBLE", "NONE"};

    private static int failed;

    /** A call of the face, good for any object. */
    static final class Call {
        final String words;
        private final Method method;
        private final Object[] values;

        Call(String name, String arguments) {
            words = name + "(" + arguments + ")";
            method = methodOf(name);
            String[] parts = arguments.isBlank() ? new String[0] : arguments.split(",");
            values = new Object[parts.length];
            for (int i = 0; i < parts.length; i++) {
                values[i] = value(parts[i].trim(), method.getParameterTypes()[i]);
            }
        }

        double on(BarStrips x) {
            try {
                return ((Number) method.invoke(x, values)).doubleValue();
            } catch (ReflectiveOperationException e) {
                throw new IllegalStateException(words + " threw " + e.getCause(), e);
            }
        }

        static Method methodOf(String name) {
            for (Method m : BarStrips.class.getMethods()) {
                if (m.getName().equals(name)) {
                    return m;
                }
            }
            throw new IllegalArgumentException("there is no call " + name);
        }

        private static Object value(String word, Class<?> type) {
            if (type == char.class) {
                return word.startsWith("'") ? word.charAt(1) : (char) Integer.parseInt(word);
            }
            return word.equals("MIN") ? Integer.MIN_VALUE
                    : word.equals("MAX") ? Integer.MAX_VALUE : Integer.parseInt(word);
        }
    }

    /** A call and the answer that is due, or null if any is. */
    static final class Step {
        final Call call;
        final Double due;

        Step(Call call, Double due) {
            this.call = call;
            this.due = due;
        }

        /** Makes the call; the words of what is wrong, or null. */
        String on(BarStrips x) {
            double got = call.on(x);
            return due == null || due == got ? null : call.words + " answered " + got + ", due is " + due;
        }
    }

    private Run() {
    }

    /** Plays a script as a test with a line of its own. */
    static void test(String name, String... scripts) {
        List<Step> steps = steps(scripts);
        BarStrips x = new BarStrips();
        StringBuilder wrong = new StringBuilder();
        for (Step step : steps) {
            String words = step.on(x);
            wrong.append(words == null ? "" : "  " + words + "\n");
        }
        if (steps.size() > MOST_CALLS) {
            wrong.append("  the test makes " + steps.size() + " calls, which is too many\n");
        }
        report(name, wrong.toString());
    }

    static void report(String name, String wrong) {
        System.out.println((wrong.isEmpty() ? "ok " : "FAILED ") + name);
        wrong.lines().limit(MOST_WRONG).forEach(System.out::println);
        failed += wrong.isEmpty() ? 0 : 1;
    }

    static void finish() {
        if (failed > 0) {
            System.exit(1);
        }
    }

    static List<Step> steps(String... scripts) {
        List<Step> steps = new ArrayList<>();
        for (String script : scripts) {
            for (String line : script.split("\n")) {
                if (!line.isBlank()) {
                    addLine(steps, line.stripLeading());
                }
            }
        }
        return steps;
    }

    private static void addLine(List<Step> steps, String line) {
        Matcher loop = LOOP.matcher(line);
        if (line.startsWith("text ")) {
            addText(steps, line.substring(5));
        } else if (loop.matches()) {
            for (int i = Integer.parseInt(loop.group(1)); i <= Integer.parseInt(loop.group(2)); i++) {
                addCalls(steps, reckoned(loop.group(3), i));
            }
        } else {
            addCalls(steps, line);
        }
    }

    private static void addText(List<Step> steps, String text) {
        steps.add(new Step(new Call("clearText", ""), null));
        for (int i = 0; i < text.length(); i++) {
            steps.add(new Step(new Call("type", String.valueOf((int) text.charAt(i))), i + 1.0));
        }
    }

    private static void addCalls(List<Step> steps, String line) {
        for (String words : line.split(" \\| ")) {
            Matcher call = CALL.matcher(words.strip());
            if (!call.matches()) {
                throw new IllegalArgumentException("no call: " + words);
            }
            String[] dues = call.group(3).strip().split(" +");
            for (int i = 0; i < dues.length; i++) {
                steps.add(new Step(new Call(call.group(1), reckoned(call.group(2), i)), due(dues[i])));
            }
        }
    }

    private static Double due(String word) {
        for (int i = 0; i < NAMES.length; i++) {
            if (NAMES[i].equals(word)) {
                return -1.0 - i;
            }
        }
        return word.equals("*") ? null : Double.valueOf(word);
    }

    private static String reckoned(String words, int number) {
        return RECKONED.matcher(words).replaceAll(m -> {
            int sum = number;
            if (m.group(1) != null) {
                sum = Integer.parseInt(m.group(1)) - number;
            } else if (m.group(2) != null) {
                sum = number + Integer.parseInt(m.group(2));
            } else if (m.group(3) != null) {
                sum = number - Integer.parseInt(m.group(3));
            }
            return String.valueOf(sum);
        });
    }
}
