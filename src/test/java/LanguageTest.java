import java.io.IOException;
import java.nio.file.Files;
import java.nio.file.Path;
import java.util.List;
import java.util.regex.Pattern;

/** LANGUAGE.md, as far as a look at the lines of the class tells. */
public final class LanguageTest {
    private static final String[] RULED_OUT = {"\\btry\\b", "\\bcatch\\b", "\\bfinally\\b", "\\bsynchronized\\b",
        "\\bassert\\b", "->", "::", "Exact\\(", "\\bdouble\\b", "\\bfloat\\b", "\\bSystem\\b", "\\bThread\\b",
        "\\bvolatile\\b", "\\bnative\\b", "\\bvar\\b", "static \\{", "\\bpackage\\b", "\\bprotected\\b", "\\bRandom\\b",
        "\\binstanceof\\b", "\\bList\\b", "\\[\\]\\[\\]", "[^\\x00-\\x7e]"};

    private LanguageTest() {
    }

    public static void main(String[] args) throws IOException {
        List<String> lines = Files.readAllLines(Path.of("src/main/java/AntlerYear.java"));
        int throwing = 0;
        int imports = 0;
        for (String line : lines) {
            boolean comment = line.trim().startsWith("*") || line.trim().startsWith("/");
            for (String ruledOut : RULED_OUT) {
                boolean there = !comment && Pattern.compile(ruledOut).matcher(line).find();
                Check.due(ruledOut + " in: " + line.trim(), there, false);
            }
            throwing += line.contains("throw new NoSuchElementException(\"") ? 1 : 0;
            imports += line.startsWith("import ") ? 1 : 0;
            Check.due("throws but by led: " + line.trim(), line.contains("throw new")
                && !line.contains("NoSuchElementException"), false);
        }
        Check.due("one throw, led's", throwing, 1);
        Check.due("one import", imports, 1);
        Check.due("the import", lines.contains("import java.util.NoSuchElementException;"), true);
        lengths(lines);
        Check.end();
    }

    private static void lengths(List<String> lines) {
        int methods = 0;
        for (int at = 0; at < lines.size(); at++) {
            String line = lines.get(at);
            if (line.matches("( {4}| {8})[a-zA-Z][^=;]*\\(.*\\)( throws .*)? \\{")) {
                String close = line.substring(0, line.length() - line.stripLeading().length()) + "}";
                int end = at;
                while (!lines.get(end).equals(close)) {
                    end++;
                }
                methods++;
                Check.due(line.trim() + " is short", end - at <= 60, true);
            }
        }
        Check.due("methods were seen", methods > 120, true);
    }
}
