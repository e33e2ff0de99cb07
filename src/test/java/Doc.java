import java.io.IOException;
import java.nio.file.Files;
import java.nio.file.Path;
import java.util.LinkedHashMap;
import java.util.Map;
import java.util.regex.Matcher;
import java.util.regex.Pattern;

/**
 * The document's sentences. Each edge test tells, in the document's own words, which sentence it is of; at the end no
 * word of the promises and of the terms may be left without a test.
 */
final class Doc {
    private static final Map<String, String> PARTS = new LinkedHashMap<>();
    private static final Map<String, boolean[]> TESTED = new LinkedHashMap<>();

    private Doc() {
    }

    static void read(Path path) throws IOException {
        String part = "";
        for (String line : Files.readAllLines(path)) {
            Matcher promise = Pattern.compile("## (Promise \\d+): .*").matcher(line);
            Matcher term = Pattern.compile("(I|II|III|IV)\\. (.*)").matcher(line);
            if (promise.matches()) {
                part = promise.group(1);
            } else if (term.matches()) {
                part = "Terms " + term.group(1);
                add(part, term.group(2));
            } else if (line.startsWith("An object is used")) {
                add("An object", line);
            } else if (line.startsWith("The constants")) {
                part = "";
                add("Constants", line.substring(line.indexOf('`')));
            } else if (line.startsWith("## ") || line.startsWith("Ahead of the calls")) {
                part = "";
            } else if (!part.isEmpty() && !line.startsWith("```")) {
                // A promise's first words are the call as it is written in the face, which FaceTest is for.
                add(part, part.startsWith("Promise") ? line.replaceFirst("^`[^`]*`: ", "") : line);
            }
        }
        PARTS.forEach((name, words) -> TESTED.put(name, new boolean[words.length()]));
        Check.due("parts of the document", PARTS.size(), 53 + 4 + 2);
    }

    private static void add(String part, String words) {
        String before = PARTS.getOrDefault(part, "");
        PARTS.put(part, (before + " " + words).replaceAll("\\s+", " ").trim());
    }

    /** The checks behind this call are of these words of a part, which must stand there. */
    static void says(String part, String words) {
        Check.about(part + ", '" + words + "'");
        String all = PARTS.getOrDefault(part, "");
        int at = all.indexOf(words);
        Check.due("the words stand in the document", at >= 0, true);
        for (int from = at; from >= 0; from = all.indexOf(words, from + 1)) {
            java.util.Arrays.fill(TESTED.get(part), from, from + words.length(), true);
        }
    }

    /** Words that no test named are printed. */
    static void allTested() {
        Check.about("words without a test");
        for (Map.Entry<String, String> entry : PARTS.entrySet()) {
            StringBuilder open = new StringBuilder();
            boolean[] tested = TESTED.get(entry.getKey());
            for (int i = 0; i < tested.length; i++) {
                open.append(tested[i] ? '.' : entry.getValue().charAt(i));
            }
            Check.same(entry.getKey(), open.toString().replaceAll("[^A-Za-z0-9]+", " ").trim(), "");
        }
        Check.about("");
    }
}
