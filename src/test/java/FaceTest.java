import java.io.IOException;
import java.lang.reflect.Constructor;
import java.lang.reflect.Executable;
import java.lang.reflect.Field;
import java.lang.reflect.Method;
import java.lang.reflect.Modifier;
import java.nio.charset.StandardCharsets;
import java.nio.file.Files;
import java.nio.file.Path;
import java.util.ArrayList;
import java.util.List;
import java.util.Map;
import java.util.TreeSet;
import java.util.regex.Matcher;
import java.util.regex.Pattern;

/** The face of the class is the one that the document shows, row by row, and has nothing besides. */
public final class FaceTest {
    private static final Path SOURCE = Path.of("src/main/java/BarStrips.java");
    private static final Pattern CALL = Pattern.compile("public (?:int|double) (\\w+)\\(.*");

    public static void main(String[] args) throws IOException {
        List<String> source = Files.readAllLines(SOURCE, StandardCharsets.UTF_8);
        TreeSet<String> open = open();
        TreeSet<String> due = new TreeSet<>();
        for (String row : Document.face()) {
            String words = row.replaceAll(" \\{$|;$", "");
            due.add(withoutNames(words));
            Run.report("face: " + words, (open.contains(withoutNames(words)) ? "" : "  the class has none\n")
                + (isIn(source, words) ? "" : "  the source does not say it so\n"));
        }
        open.removeAll(due);
        Run.report("face: nothing besides", open.isEmpty() ? "" : "  there are " + open + "\n");
        for (Map.Entry<String, List<String>> title : Document.titles().entrySet()) {
            List<String> behind = callsBehind(source, "// " + title.getKey());
            Run.report("face: " + title.getKey(),
                behind.equals(title.getValue()) ? "" : "  ahead of " + behind + "\n");
        }
        Run.finish();
    }

    private static String withoutNames(String words) {
        return words.replaceAll("(int|char) \\w+([,)])", "$1$2");
    }

    /** A constant's row is there as it is, one of a class or a call opens a body. */
    private static boolean isIn(List<String> source, String words) {
        String indent = words.contains(" class ") ? "" : "    ";
        return source.contains(indent + words + ";") || source.contains(indent + words + " {");
    }

    /** All that is not private, in the document's words but without the names of arguments. */
    private static TreeSet<String> open() {
        TreeSet<String> open = new TreeSet<>();
        open.add(Modifier.toString(BarStrips.class.getModifiers()) + " class BarStrips");
        for (Class<?> inside : BarStrips.class.getDeclaredClasses()) {
            if (Modifier.isPublic(inside.getModifiers()) || Modifier.isProtected(inside.getModifiers())) {
                open.add(Modifier.toString(inside.getModifiers()) + " class " + inside.getSimpleName());
            }
        }
        for (Field field : BarStrips.class.getDeclaredFields()) {
            if (!Modifier.isPrivate(field.getModifiers())) {
                open.add(Modifier.toString(field.getModifiers()) + " " + field.getType() + " "
                    + field.getName() + " = " + valueOf(field));
            }
        }
        for (Constructor<?> made : BarStrips.class.getDeclaredConstructors()) {
            if (!Modifier.isPrivate(made.getModifiers())) {
                open.add(Modifier.toString(made.getModifiers()) + " BarStrips" + types(made));
            }
        }
        for (Method method : BarStrips.class.getDeclaredMethods()) {
            if (!Modifier.isPrivate(method.getModifiers())) {
                open.add(Modifier.toString(method.getModifiers()) + " " + method.getReturnType() + " "
                    + method.getName() + types(method));
            }
        }
        return open;
    }

    private static String valueOf(Field field) {
        try {
            return Modifier.isStatic(field.getModifiers()) ? String.valueOf(field.get(null)) : "no constant";
        } catch (IllegalAccessException e) {
            return "no value";
        }
    }

    private static String types(Executable call) {
        List<String> types = new ArrayList<>();
        for (Class<?> type : call.getParameterTypes()) {
            types.add(type.getName());
        }
        return "(" + String.join(", ", types) + ")";
    }

    /** The calls of the face between the title and the next one, in their order. */
    private static List<String> callsBehind(List<String> source, String title) {
        List<String> calls = new ArrayList<>();
        boolean behind = false;
        for (String line : source) {
            String words = line.strip();
            if (words.startsWith("// ----")) {
                behind = words.equals(title);
            }
            Matcher m = CALL.matcher(words);
            if (behind && m.matches()) {
                calls.add(m.group(1));
            }
        }
        return calls;
    }
}
