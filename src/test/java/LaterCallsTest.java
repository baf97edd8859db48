import java.io.IOException;
import java.lang.reflect.Method;
import java.util.ArrayList;
import java.util.List;
import java.util.Random;

/**
 * No call throws, for any arguments and far behind the 512th call, too; and the same calls give the
 * same answers, whatever another object is used for (rules 5, 7 and 13 of LANGUAGE.md).
 */
public final class LaterCallsTest {
    private static final int RUNS = 6;
    private static final int CALLS = 6000;
    private static final int[] FAR = {Integer.MIN_VALUE, Integer.MIN_VALUE + 1, -200, -100, -2, -1, 89, 90,
        199, 200, 201, 999, 1000, 1 << 30, Integer.MAX_VALUE - 30, Integer.MAX_VALUE};

    private static final List<String> FILLING = List.of("bar", "arrow", "type");
    private static final List<String> EMPTYING = List.of("takeBar", "takeArrow", "clearText");

    private final Random random;
    private final List<Method> methods = new ArrayList<>();

    private LaterCallsTest(int seed) throws IOException {
        random = new Random(seed);
        for (List<String> names : Document.titles().values()) {
            for (String name : names) {
                methods.add(Run.Call.methodOf(name));
            }
        }
    }

    public static void main(String[] args) throws IOException {
        for (int seed = 0; seed < RUNS; seed++) {
            String wrong = new LaterCallsTest(seed).play();
            Run.report("later calls: " + CALLS + " calls, run " + seed, wrong);
        }
        Run.finish();
    }

    /** Plays calls on an object, then the same on another one while the first one is used on. */
    private String play() {
        List<Method> calls = new ArrayList<>();
        List<Object[]> arguments = new ArrayList<>();
        List<Object> answers = new ArrayList<>();
        BarStrips one = new BarStrips();
        try {
            for (int i = 0; i < CALLS; i++) {
                calls.add(someMethod());
                arguments.add(someArguments(calls.get(i)));
                answers.add(calls.get(i).invoke(one, arguments.get(i)));
            }
            BarStrips other = new BarStrips();
            for (int i = 0; i < CALLS; i++) {
                Method between = someMethod();
                between.invoke(one, someArguments(between));
                Object again = calls.get(i).invoke(other, arguments.get(i));
                if (!again.equals(answers.get(i))) {
                    return "  call " + i + ", " + calls.get(i) + ", answered " + answers.get(i) + ", then " + again;
                }
            }
        } catch (ReflectiveOperationException e) {
            return "  behind " + calls.size() + " calls one threw " + e.getCause();
        }
        return "";
    }

    /** What fills the chart and the text comes often, what empties them seldom. */
    private Method someMethod() {
        Method method = methods.get(random.nextInt(methods.size()));
        boolean often = random.nextInt(3) == 0;
        while (often && !FILLING.contains(method.getName())
                || EMPTYING.contains(method.getName()) && random.nextInt(10) > 0) {
            method = methods.get(random.nextInt(methods.size()));
        }
        return method;
    }

    private Object[] someArguments(Method call) {
        Object[] values = new Object[call.getParameterCount()];
        for (int i = 0; i < values.length; i++) {
            values[i] = call.getParameterTypes()[i] == char.class ? (Object) someSign() : (Object) someNumber();
        }
        return values;
    }

    private char someSign() {
        String often = "0123456789@+>;";
        return random.nextInt(20) == 0 ? (char) random.nextInt(65536) : often.charAt(random.nextInt(often.length()));
    }

    private int someNumber() {
        switch (random.nextInt(12)) {
            case 0: return FAR[random.nextInt(FAR.length)];
            case 1: case 2: return random.nextInt(200);
            case 3: case 4: case 5: return random.nextInt(40);
            default: return random.nextInt(12);
        }
    }
}
