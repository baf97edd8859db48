import java.io.IOException;
import java.nio.charset.StandardCharsets;
import java.nio.file.Files;
import java.nio.file.Path;
import java.util.ArrayList;
import java.util.List;

/**
 * Holds each sentence of the document against src/test/sentences.txt, which names the tests that hold
 * it: those must have run and passed, as told by the lines of the file that is named as the argument.
 */
public final class Sentences {
    private static final Path INDEX = Path.of("src/test/sentences.txt");
    private static final String FREE = "(nothing is promised)";

    private Sentences() {
    }

    public static void main(String[] args) throws IOException {
        List<String> ran = Files.readAllLines(Path.of(args[0]), StandardCharsets.UTF_8);
        List<String> sentences = Document.sentences();
        List<String> index = Files.readAllLines(INDEX, StandardCharsets.UTF_8);
        index.removeIf(line -> line.isBlank() || line.startsWith("#"));
        int at = 0;
        for (int i = 0; i < sentences.size(); i++) {
            List<String> tests = new ArrayList<>();
            boolean there = at < index.size() && index.get(at).equals("> " + sentences.get(i));
            for (at += there ? 1 : 0; at < index.size() && index.get(at).startsWith("  "); at++) {
                tests.add(index.get(at).strip());
            }
            Run.report("sentence " + (i + 1) + ": " + start(sentences.get(i)),
                there ? missing(tests, ran) : "  it is not the next one in " + INDEX + "\n");
        }
        Run.report("no other sentences are in " + INDEX, at == index.size() ? "" : "  " + index.get(at) + "\n");
        Run.finish();
    }

    private static String start(String sentence) {
        return sentence.length() <= 80 ? sentence : sentence.substring(0, 77) + "..";
    }

    private static String missing(List<String> tests, List<String> ran) {
        StringBuilder missing = new StringBuilder(tests.isEmpty() ? "  it names no test\n" : "");
        for (String test : tests) {
            boolean passed = test.equals(FREE) || ran.contains("ok " + test) || test.endsWith("*")
                && ran.stream().anyMatch(line -> line.startsWith("ok " + test.substring(0, test.length() - 1)));
            missing.append(passed ? "" : "  this test did not run and pass: " + test + "\n");
        }
        return missing.toString();
    }
}
