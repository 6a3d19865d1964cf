import java.io.IOException;
import java.nio.charset.StandardCharsets;
import java.nio.file.Files;
import java.nio.file.Path;
import java.util.ArrayList;
import java.util.LinkedHashMap;
import java.util.List;
import java.util.Map;
import java.util.regex.Matcher;
import java.util.regex.Pattern;

/** The document's parts and their sentences (to a dot or a semicolon), and which are quoted. */
final class Doc {
    private static final Pattern SECTION = Pattern.compile("(\\d)\\. [A-Z ]+");
    private static final Pattern PROMISE = Pattern.compile("## Promise (\\d+): .*");

    private final Map<String, StringBuilder> texts = new LinkedHashMap<>();
    private final Map<String, List<int[]>> sentences = new LinkedHashMap<>();
    private final Map<String, List<int[]>> quoted = new LinkedHashMap<>();

    Doc(Path path) throws IOException {
        String part = null;
        for (String line : Files.readAllLines(path, StandardCharsets.UTF_8)) {
            Matcher section = SECTION.matcher(line);
            Matcher promise = PROMISE.matcher(line);
            if (line.equals("## What it is")) {
                part = "section0";
            } else if (section.matches()) {
                part = "section" + section.group(1);
            } else if (promise.matches()) {
                part = "promise" + promise.group(1);
            } else if (line.startsWith("## ")) {
                part = null;
            } else if (part != null && isSaid(line)) {
                add(part, line.trim());
            }
        }
    }

    // Signatures, headings and the constant say nothing that a test could be of.
    private static boolean isSaid(String line) {
        return !line.isBlank() && !line.startsWith("`") && !line.startsWith("----")
            && !line.startsWith("- `NONE") && !line.startsWith("The constant")
            && !line.startsWith("The constructor");
    }

    private void add(String part, String line) {
        StringBuilder text = texts.computeIfAbsent(part, p -> new StringBuilder());
        List<int[]> ends = sentences.computeIfAbsent(part, p -> new ArrayList<>());
        // Of a list of causes, each one counts.
        String cut = "(?<=\\.) (?=[A-Z])|(?<=;) " + (line.startsWith("Throws") ? "|(?<=,) " : "");
        for (String sentence : line.replaceAll("^\\d\\. ", "").split(cut)) {
            ends.add(new int[] {text.length(), text.length() + sentence.length()});
            text.append(sentence).append(' ');
        }
    }

    /** Whether the part has these words, in their order; they count as quoted then. */
    boolean quote(String part, String words) {
        int from = 0;
        StringBuilder text = texts.get(part);
        for (String piece : words.split(" \\.\\. ")) {
            int at = text == null ? -1 : text.indexOf(piece, from);
            if (at < 0) {
                return false;
            }
            from = at + piece.length();
            quoted.computeIfAbsent(part, p -> new ArrayList<>()).add(new int[] {at, from});
        }
        return true;
    }

    /** The sentences that no test quotes, not even in part. */
    List<String> unquoted() {
        List<String> found = new ArrayList<>();
        for (String part : texts.keySet()) {
            for (int[] ends : sentences.get(part)) {
                boolean seen = false;
                for (int[] quote : quoted.getOrDefault(part, List.of())) {
                    seen |= quote[0] < ends[1] && ends[0] < quote[1];
                }
                if (!seen) {
                    found.add(part + ": " + texts.get(part).substring(ends[0], ends[1]));
                }
            }
        }
        return found;
    }

    int parts() {
        return texts.size();
    }
}
