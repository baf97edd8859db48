import java.lang.reflect.Field;
import java.lang.reflect.Method;
import java.lang.reflect.Modifier;
import java.nio.charset.StandardCharsets;
import java.nio.file.Files;
import java.nio.file.Path;
import java.util.Arrays;
import java.util.HashMap;
import java.util.Map;
import java.util.TreeSet;
import java.util.regex.Matcher;
import java.util.regex.Pattern;

/** The rules of LANGUAGE.md that can be seen from outside or from the words of the source. */
public final class LanguageTest {
    private static final String[] FORBIDDEN = {"->", "::", "\\bcatch\\b", "\\btry\\b", "\\bfinally\\b",
        "\\bthrow\\b", "\\bthrows\\b", "\\bsynchronized\\b", "\\bassert\\b", "Exact\\b", "\\bpackage\\b",
        "\\bThread\\b", "\\bRandom\\b", "\\bcurrentTime", "\\bnanoTime\\b", "\\bSystem\\.(?!arraycopy\\b)",
        "\\bObject\\b", "\\bequals\\b", "\\bhashCode\\b", "\\btoString\\b", "\\bstatic \\{",
        "\\bprotected\\b", "\"", "\\bvar\\b", "\\bMath\\.(?!max\\b|min\\b|abs\\b)"};
    private static final int LONGEST_METHOD = 60;
    private static final int DEEPEST_CALLS = 8;

    private static int failed;

    public static void main(String[] args) throws Exception {
        String source = Files.readString(Path.of("src/main/java/BarStrips.java"), StandardCharsets.UTF_8);
        String code = withoutComments(source);
        test("no private method bears the name of a public one (rule 1)", names());
        test("static fields are final (rule 5)", statics());
        test("nothing forbidden is in the source (rules 2 to 6, 13)", words(code));
        test("no library but Arrays is imported (rule 4)", imports(code));
        test("methods are short (rule 11)", lengths(code));
        test("few classes, few fields (rule 11)", sizes());
        test("calls go at most eight deep, the face's own one and the library's with them (rule 11)",
            depths(code));
        test("signs are plain (rule 4)", source.chars().allMatch(c -> c == '\n' || c >= 32 && c < 127));
        if (failed > 0) {
            System.exit(1);
        }
    }

    private static void test(String name, boolean good) {
        System.out.println((good ? "ok " : "FAILED ") + name);
        failed += good ? 0 : 1;
    }

    private static String withoutComments(String source) {
        return source.replaceAll("(?s)/\\*.*?\\*/", "").replaceAll("//[^\n]*", "");
    }

    private static boolean names() {
        TreeSet<String> open = new TreeSet<>();
        for (Method m : BarStrips.class.getMethods()) {
            open.add(m.getName());
        }
        boolean good = true;
        for (Class<?> inside : classes()) {
            for (Method m : inside.getDeclaredMethods()) {
                boolean faceItself = inside == BarStrips.class && Modifier.isPublic(m.getModifiers());
                good = good && (faceItself || !open.contains(m.getName()));
            }
        }
        return good;
    }

    private static Class<?>[] classes() {
        Class<?>[] inside = BarStrips.class.getDeclaredClasses();
        Class<?>[] all = Arrays.copyOf(inside, inside.length + 1);
        all[inside.length] = BarStrips.class;
        return all;
    }

    private static boolean statics() {
        boolean good = true;
        for (Class<?> inside : classes()) {
            for (Field f : inside.getDeclaredFields()) {
                int modifiers = f.getModifiers();
                good = good && (!Modifier.isStatic(modifiers) || Modifier.isFinal(modifiers));
            }
        }
        return good;
    }

    private static boolean words(String code) {
        boolean good = true;
        for (String word : FORBIDDEN) {
            if (Pattern.compile(word).matcher(code).find()) {
                System.out.println("in the source: " + word);
                good = false;
            }
        }
        return good;
    }

    private static boolean imports(String code) {
        Matcher m = Pattern.compile("import [^;]*;").matcher(code);
        boolean good = true;
        while (m.find()) {
            good = good && m.group().equals("import java.util.Arrays;");
        }
        return good && code.split("\\bjava\\.").length <= 2;
    }

    /** Counts the lines from a line that opens a method, by its indent, to the one that closes it. */
    private static boolean lengths(String code) {
        String[] lines = code.split("\n");
        boolean good = true;
        for (int i = 0; i < lines.length; i++) {
            if (lines[i].matches("( {4}| {8})[^ }].*\\) \\{")) {
                String close = lines[i].replaceAll("\\S.*", "") + "}";
                int end = i;
                while (end < lines.length && !lines[end].equals(close)) {
                    end++;
                }
                good = good && end - i < LONGEST_METHOD;
            }
        }
        return good;
    }

    /** The body of each method, by the indent of its first line and its name. */
    private static Map<String, String> bodies(String code) {
        Map<String, String> bodies = new HashMap<>();
        Matcher m = Pattern.compile("(?m)^( {4}| {8})(?:[\\w\\[\\]]+ )+(\\w+)\\([^)]*\\) \\{$").matcher(code);
        while (m.find()) {
            int end = code.indexOf("\n" + m.group(1) + "}", m.end());
            bodies.put(m.group(1) + m.group(2), code.substring(m.end(), end));
        }
        return bodies;
    }

    private static boolean depths(String code) {
        Map<String, String> bodies = bodies(code);
        boolean good = bodies.size() > BarStrips.class.getMethods().length;
        for (String method : bodies.keySet()) {
            if (depth(bodies, method, 0) > DEEPEST_CALLS) {
                System.out.println("calls go too deep from " + method.strip());
                good = false;
            }
        }
        return good;
    }

    /** How deep calls go, a method that is none of the program's own being one deep. */
    private static int depth(Map<String, String> bodies, String method, int above) {
        if (!bodies.containsKey(method) || above > DEEPEST_CALLS) {
            return 1;
        }
        int deepest = 0;
        Matcher m = Pattern.compile("(\\.?)\\b(\\w+)\\(").matcher(bodies.get(method));
        while (m.find()) {
            if (!m.group(2).matches("if|for|while|switch|return")) {
                String inner = " ".repeat(8) + m.group(2);
                String outer = " ".repeat(4) + m.group(2);
                boolean fromInside = method.startsWith(" ".repeat(8)) || !m.group(1).isEmpty();
                boolean isInner = fromInside ? bodies.containsKey(inner) : !bodies.containsKey(outer);
                deepest = Math.max(deepest, depth(bodies, isInner ? inner : outer, above + 1));
            }
        }
        return deepest + 1;
    }

    private static boolean sizes() {
        boolean good = classes().length <= 12;
        for (Class<?> inside : classes()) {
            int fields = 0;
            for (Field f : inside.getDeclaredFields()) {
                fields += Modifier.isStatic(f.getModifiers()) ? 0 : 1;
            }
            good = good && fields <= 20;
            good = good && (inside == BarStrips.class || Modifier.isStatic(inside.getModifiers()));
        }
        return good;
    }
}
