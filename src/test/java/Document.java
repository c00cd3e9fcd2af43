import java.io.IOException;
import java.nio.file.Files;
import java.nio.file.Path;
import java.util.LinkedHashMap;
import java.util.LinkedHashSet;
import java.util.Map;
import java.util.Set;
import java.util.regex.Matcher;
import java.util.regex.Pattern;

/** The sentences of ../shared/DOC.md that say what the class does, under the headings that they stand under. */
final class Document {
    private static final Pattern HEADING = Pattern.compile("## (Promise \\d+):.*|<h2>(.*)</h2>|## (.*)");
    private static final Pattern SIGNATURE = Pattern.compile("^`[^`]*\\)( throws [^`]*)?`: ");
    /** A parameter's line is a sentence where it tells an edge, and not just what the parameter is. */
    private static final Pattern TELLING_PARAMETER = Pattern.compile("^- `\\w+`: .*(,|\\bany\\b).*$");

    private final Map<String, Set<String>> sentences = new LinkedHashMap<>();

    Document() throws IOException {
        String heading = "";
        StringBuilder paragraph = new StringBuilder();
        for (String line : Files.readAllLines(Path.of("../shared/DOC.md"))) {
            Matcher matcher = HEADING.matcher(line);
            if (matcher.matches() || line.isBlank()) {
                add(heading, plain(paragraph.toString()));
                paragraph.setLength(0);
            }
            if (matcher.matches()) {
                heading = firstGroup(matcher);
            } else if (line.startsWith("- `")) {
                add(heading, plain(line));
            } else {
                paragraph.append(line).append(' ');
            }
        }
        add(heading, plain(paragraph.toString()));
    }

    private static String firstGroup(Matcher matcher) {
        for (int group = 1; group < matcher.groupCount(); group++) {
            if (matcher.group(group) != null) {
                return matcher.group(group);
            }
        }
        return matcher.group(matcher.groupCount());
    }

    static String plain(String text) {
        return text.replaceAll("\\s+", " ").trim();
    }

    private void add(String heading, String paragraph) {
        boolean parameter = paragraph.startsWith("- `");
        if (paragraph.isEmpty() || parameter && !TELLING_PARAMETER.matcher(paragraph).matches()) {
            return;
        }
        String words = SIGNATURE.matcher(paragraph).replaceFirst("").replaceFirst("^- ", "");
        for (String sentence : words.split("(?<=\\.) (?=[A-Z])")) {
            sentences.computeIfAbsent(heading, any -> new LinkedHashSet<>()).add(sentence);
        }
    }

    Set<String> headings() {
        return sentences.keySet();
    }

    Set<String> under(String heading) {
        return sentences.getOrDefault(heading, Set.of());
    }
}
