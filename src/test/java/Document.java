import java.io.IOException;
import java.nio.charset.StandardCharsets;
import java.nio.file.Files;
import java.nio.file.Path;
import java.util.ArrayList;
import java.util.LinkedHashMap;
import java.util.List;
import java.util.Map;
import java.util.regex.Matcher;
import java.util.regex.Pattern;

/** The words of the document, as they stand in ../shared/DOC.md. */
final class Document {
    private static final Path PLACE = Path.of("../shared/DOC.md");
    private static final Pattern AHEAD = Pattern.compile("Ahead of the calls (.*) the interface says: (.*)\\.");

    private Document() {
    }

    /** Each sentence in its order; a row of arguments or of answers is one. Titles are none. */
    static List<String> sentences() throws IOException {
        List<String> sentences = new ArrayList<>();
        boolean inCode = false;
        for (String line : lines()) {
            boolean fence = line.startsWith("```");
            inCode ^= fence;
            if (!fence && !inCode && !line.isBlank() && !line.startsWith("#") && !line.matches("[A-Z, ]+")) {
                sentences.addAll(List.of(line.strip().split("(?<=[.)]) (?=[A-Z(`][^)])")));
            }
        }
        return sentences;
    }

    /** The rows of the public face, from the one that opens the class to the last one in it. */
    static List<String> face() throws IOException {
        List<String> rows = new ArrayList<>();
        for (String line : lines()) {
            if (line.equals("}")) {
                break;
            }
            if (line.startsWith("public ") || !rows.isEmpty()) {
                rows.add(line.strip());
            }
        }
        return rows;
    }

    /** For each title that the interface has, the calls that it is ahead of. */
    static Map<String, List<String>> titles() throws IOException {
        Map<String, List<String>> titles = new LinkedHashMap<>();
        for (String sentence : sentences()) {
            Matcher m = AHEAD.matcher(sentence);
            if (m.matches()) {
                titles.put(m.group(2), List.of(m.group(1).replace("`", "").split(", ")));
            }
        }
        return titles;
    }

    private static List<String> lines() throws IOException {
        return Files.readAllLines(PLACE, StandardCharsets.UTF_8);
    }
}
