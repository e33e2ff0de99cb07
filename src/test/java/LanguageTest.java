import java.io.IOException;
import java.nio.file.Files;
import java.nio.file.Path;
import java.util.ArrayList;
import java.util.HashMap;
import java.util.List;
import java.util.Map;
import java.util.regex.Matcher;
import java.util.regex.Pattern;

/** LANGUAGE.md, as far as a look at the lines of the class tells. FaceTest has its rules 1, 5 and parts of 11. */
public final class LanguageTest {
    private static final String[] RULED_OUT = {"\\btry\\b", "\\bcatch\\b", "\\bfinally\\b", "\\bsynchronized\\b",
        "\\bassert\\b", "->", "::", "Exact\\(", "\\bdouble\\b", "\\bfloat\\b", "\\bSystem\\b", "\\bThread\\b",
        "\\bvolatile\\b", "\\bnative\\b", "\\bvar\\b", "static \\{", "\\bpackage\\b", "\\bprotected\\b", "\\bRandom\\b",
        "\\binstanceof\\b", "\\bList\\b", "\\[\\]\\[\\]", "\\bwhile \\(true\\)", "\\bfor \\(;", "[^\\x00-\\x7e]"};
    private static final Pattern METHOD
        = Pattern.compile("( {4}| {8})(?=[a-zA-Z])[^=;]*?\\b(\\w+)\\(.*\\)( throws .*)? \\{");
    private static final int DEEPEST = 8;

    /** The lines of each method by its name, which no two methods share. */
    private static final Map<String, List<String>> BODIES = new HashMap<>();

    private LanguageTest() {
    }

    public static void main(String[] args) throws IOException {
        List<String> lines = Files.readAllLines(Path.of("src/main/java/AntlerYear.java"));
        ruledOut(lines);
        exceptions(lines);
        readMethods(lines);
        depths();
        madeOnce();
        Check.end();
    }

    private static boolean isComment(String line) {
        return line.trim().startsWith("*") || line.trim().startsWith("/");
    }

    private static void ruledOut(List<String> lines) {
        for (String line : lines) {
            for (String ruledOut : RULED_OUT) {
                boolean there = !isComment(line) && Pattern.compile(ruledOut).matcher(line).find();
                Check.due(ruledOut + " in: " + line.trim(), there, false);
            }
        }
    }

    /** Rule 6: one throw, led's, with a written text; one import, for it. */
    private static void exceptions(List<String> lines) {
        int throwing = 0;
        int imports = 0;
        for (String line : lines) {
            throwing += line.contains("throw new NoSuchElementException(\"") ? 1 : 0;
            imports += line.startsWith("import ") ? 1 : 0;
            Check.due("throws but by led: " + line.trim(), line.contains("throw new")
                && !line.contains("NoSuchElementException"), false);
        }
        Check.due("one throw, led's", throwing, 1);
        Check.due("one import", imports, 1);
        Check.due("the import", lines.contains("import java.util.NoSuchElementException;"), true);
    }

    /** Rule 11: methods are short. */
    private static void readMethods(List<String> lines) {
        for (int at = 0; at < lines.size(); at++) {
            Matcher method = METHOD.matcher(lines.get(at));
            if (method.matches() && !lines.get(at).trim().matches("(if|for|while|switch) .*")) {
                int end = at;
                while (!lines.get(end).equals(method.group(1) + "}")) {
                    end++;
                }
                Check.due(method.group(2) + " is short", end - at <= 60, true);
                Check.due(method.group(2) + " is the only one of its name",
                    BODIES.put(method.group(2), lines.subList(at + 1, end)) == null, true);
            }
        }
        Check.due("methods were seen", BODIES.size() > 120, true);
    }

    /** Rules 8 and 11: no method calls itself, by whatever way, and calls go at most eight deep. */
    private static void depths() {
        for (String name : BODIES.keySet()) {
            int deep = depth(name, new ArrayList<>());
            Check.due(name + " goes " + deep + " deep", deep <= DEEPEST, true);
        }
    }

    private static int depth(String name, List<String> open) {
        Check.due(name + " is called by itself: " + open, open.contains(name), false);
        if (open.contains(name)) {
            return 0;
        }
        open.add(name);
        int deepest = 0;
        for (String line : BODIES.get(name)) {
            Matcher call = Pattern.compile("\\b(new )?(\\w+)\\(").matcher(line);
            while (!isComment(line) && call.find()) {
                if (BODIES.containsKey(call.group(2))) {
                    deepest = Math.max(deepest, depth(call.group(2), open));
                }
            }
        }
        open.remove(open.size() - 1);
        return deepest + 1;
    }

    /** Rule 12: only constructors, whose names begin with a great letter, make objects and rows. */
    private static void madeOnce() {
        for (Map.Entry<String, List<String>> method : BODIES.entrySet()) {
            for (String line : method.getValue()) {
                boolean made = line.contains("new ") && !isComment(line) && !line.contains("throw new");
                Check.due(method.getKey() + " makes something: " + line.trim(),
                    made && Character.isLowerCase(method.getKey().charAt(0)), false);
            }
        }
    }
}
