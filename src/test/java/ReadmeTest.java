import java.io.ByteArrayOutputStream;
import java.io.IOException;
import java.lang.reflect.Field;
import java.net.URL;
import java.net.URLClassLoader;
import java.nio.charset.StandardCharsets;
import java.nio.file.Files;
import java.nio.file.Path;
import java.util.List;
import java.util.function.Consumer;
import java.util.regex.Matcher;
import java.util.regex.Pattern;
import java.util.stream.Collectors;
import java.util.stream.Stream;
import javax.tools.ToolProvider;

/** README.md's example is compiled and played as it stands, and each answer that it says is held. */
public final class ReadmeTest {
    private static final Path BUILD = Path.of("build/readme");
    private static final Pattern ANSWERED = Pattern.compile("(chart\\.\\w+\\(.*\\)); +// ([-\\w.]+): .*");

    private ReadmeTest() {
    }

    public static void main(String[] args) throws Exception {
        String readme = Files.readString(Path.of("README.md"), StandardCharsets.UTF_8);
        play(program(block(readme)));
        table(readme);
        tests(readme);
        Run.finish();
    }

    /** Called by the example for each of its calls. */
    public static void due(String call, double got, double due) {
        Run.report("readme: " + call, got == due ? "" : "  answered " + got + ", README.md says " + due + "\n");
    }

    private static List<String> block(String readme) {
        Matcher m = Pattern.compile("(?s)\n```java\n(.*?)\n```\n").matcher(readme);
        return m.find() ? m.group(1).lines().collect(Collectors.toList()) : List.of();
    }

    /** The example as a program, in which each call at the margin hands its answer over to be held. */
    private static String program(List<String> block) {
        StringBuilder program = new StringBuilder("public final class ReadmeExample implements Runnable {\n"
            + "public void run() {\n");
        StringBuilder unanswered = new StringBuilder(block.isEmpty() ? "  there is no example\n" : "");
        for (String line : block) {
            Matcher m = ANSWERED.matcher(line);
            if (m.matches()) {
                String due = m.group(2).matches("[A-Z_]+") ? "BarStrips." + m.group(2) : m.group(2);
                program.append("ReadmeTest.due(\"" + m.group(1) + "\", " + m.group(1) + ", " + due + ");\n");
            } else {
                program.append(line).append('\n');
                unanswered.append(line.startsWith("chart.") ? "  " + line + "\n" : "");
            }
        }
        Run.report("readme: each call of the example has an answer", unanswered.toString());
        return program.append("}\n}\n").toString();
    }

    private static void play(String program) throws Exception {
        Files.createDirectories(BUILD);
        Path source = BUILD.resolve("ReadmeExample.java");
        Files.writeString(source, program, StandardCharsets.UTF_8);
        ByteArrayOutputStream said = new ByteArrayOutputStream();
        int code = ToolProvider.getSystemJavaCompiler().run(null, said, said, "-cp",
            System.getProperty("java.class.path"), "-d", BUILD.toString(), source.toString());
        Run.report("readme: the example compiles", code == 0 ? "" : said.toString(StandardCharsets.UTF_8));
        if (code == 0) {
            try (URLClassLoader loader = new URLClassLoader(new URL[] {BUILD.toUri().toURL()})) {
                ((Runnable) loader.loadClass("ReadmeExample").getConstructor().newInstance()).run();
            }
        }
    }

    /** Each constant stands in the table with its number and, by the document, what it means. */
    private static void table(String readme) throws Exception {
        for (Field constant : BarStrips.class.getFields()) {
            String meaning = meaning(constant.getName());
            Pattern row = Pattern.compile("(?m)^\\| `" + constant.getName() + "` +\\| (-\\d) +\\| "
                + Pattern.quote(meaning) + "\\b");
            Matcher m = row.matcher(readme);
            boolean good = m.find() && m.group(1).equals(String.valueOf(constant.getInt(null)));
            Run.report("readme: what " + constant.getName() + " means",
                good ? "" : "  no row of the table begins so: " + meaning + "\n");
        }
    }

    /** The document's words about a constant, up to the first mark behind them. */
    private static String meaning(String constant) throws IOException {
        for (String sentence : Document.sentences()) {
            if (sentence.contains("`" + constant + " = ")) {
                return sentence.replaceAll(".*`: ", "").replaceAll("[.;].*", "");
            }
        }
        return "(the document tells nothing)";
    }

    private static void tests(String readme) throws IOException {
        try (Stream<Path> files = Files.list(Path.of("src/test/java"))) {
            Consumer<String> named = name -> Run.report("readme: it names " + name,
                readme.contains("`" + name + "`") ? "" : "  it does not\n");
            files.map(file -> file.getFileName().toString().replace(".java", ""))
                .filter(name -> name.endsWith("Test")).sorted().forEach(named);
        }
    }
}
