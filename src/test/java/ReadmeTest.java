import java.io.IOException;
import java.nio.file.FileVisitResult;
import java.nio.file.Files;
import java.nio.file.Path;
import java.nio.file.SimpleFileVisitor;
import java.nio.file.StandardCopyOption;
import java.nio.file.attribute.BasicFileAttributes;
import java.util.ArrayList;
import java.util.List;
import java.util.regex.Matcher;
import java.util.regex.Pattern;

/** README.md: its example prints what it says, it names every call, and its commands work in a clean copy. */
public final class ReadmeTest {
    private static final String WHOLE_RUN = ".ci/run";

    private ReadmeTest() {
    }

    public static void main(String[] args) throws IOException, InterruptedException {
        String page = Files.readString(Path.of("README.md"));
        Path folder = Files.createTempDirectory("readme");
        callsAreNamed(page);
        testsAreNamed(page);
        example(page, folder);
        commands(page, folder);
        remove(folder);
        Check.end();
    }

    private static List<String> blocks(String page, String language) {
        List<String> blocks = new ArrayList<>();
        Matcher block = Pattern.compile("```" + language + "\n(.*?)```", Pattern.DOTALL).matcher(page);
        while (block.find()) {
            blocks.add(block.group(1));
        }
        return blocks;
    }

    private static void callsAreNamed(String page) {
        for (String call : FaceTest.FACE) {
            String name = call.substring(call.indexOf(' ') + 1, call.indexOf('('));
            int parameters = call.contains("()") ? 0 : call.substring(0, call.indexOf(')')).split(",").length;
            Matcher named = Pattern.compile("`" + name + "\\(([^)]*)\\)`").matcher(page);
            Check.due(name + " is named", named.find(), true);
            Check.due(name + "'s parameters", named.reset().find() && !named.group(1).isEmpty()
                ? named.group(1).split(",").length : 0, parameters);
        }
    }

    private static void testsAreNamed(String page) throws IOException {
        try (java.util.stream.Stream<Path> files = Files.list(Path.of("src/test/java"))) {
            for (Path file : files.toList()) {
                String name = file.getFileName().toString().replace(".java", "");
                Check.due(name + " is named", !name.endsWith("Test") || page.contains("`" + name + "`"), true);
            }
        }
    }

    /** Each line that prints has what it prints behind it, up to a colon. */
    private static void example(String page, Path folder) throws IOException, InterruptedException {
        List<String> blocks = blocks(page, "java");
        Check.due("one example", blocks.size(), 1);
        StringBuilder want = new StringBuilder();
        Matcher print = Pattern.compile("println\\(.*\\); +// ([^:\n]*)").matcher(blocks.get(0));
        while (print.find()) {
            want.append(print.group(1)).append('\n');
        }
        Path file = folder.resolve("Example.java");
        Files.writeString(file, blocks.get(0));
        String main = Path.of("src/main/java/AntlerYear.java").toAbsolutePath().toString();
        run(folder, "javac --release 17 -Xlint:all -Werror -d example '" + main + "' Example.java");
        Check.same("the example prints", run(folder, "java -cp example Example"), want.toString());
        Check.due("the example prints much", want.length() > 20, true);
    }

    private static void commands(String page, Path folder) throws IOException, InterruptedException {
        Path main = folder.resolve("main");
        copyTree(Path.of("."), main);
        Files.createSymbolicLink(folder.resolve("shared"), Path.of("../shared").toRealPath());
        int tried = 0;
        for (String block : blocks(page, "sh")) {
            if (block.trim().equals(WHOLE_RUN)) {
                // It is running just now, so it is not run again from here.
                Check.due(WHOLE_RUN + " can be run", Files.isExecutable(main.resolve(WHOLE_RUN)), true);
            } else {
                run(main, block);
                tried++;
            }
        }
        Check.due("commands of the page", tried, 2);
        Check.due("the page names " + WHOLE_RUN, blocks(page, "sh").contains(WHOLE_RUN + "\n"), true);
    }

    /** What a command prints, which must not fail at any of its lines. */
    private static String run(Path folder, String command) throws IOException, InterruptedException {
        Path printed = Files.createTempFile(folder, "printed", ".txt");
        ProcessBuilder builder = new ProcessBuilder("bash", "-eu", "-c", command).directory(folder.toFile())
            .redirectErrorStream(true).redirectOutput(printed.toFile());
        // What a command makes by mktemp goes away with the folder.
        builder.environment().put("TMPDIR", folder.toAbsolutePath().toString());
        int code = builder.start().waitFor();
        String text = Files.readString(printed);
        Files.delete(printed);
        Check.due("'" + command + "' printed " + text + " and its exit code", code, 0);
        return text;
    }

    private static void copyTree(Path from, Path to) throws IOException {
        Files.walkFileTree(from, new SimpleFileVisitor<Path>() {
            @Override
            public FileVisitResult preVisitDirectory(Path folder, BasicFileAttributes known) throws IOException {
                if (folder.getFileName().toString().equals(".git")) {
                    return FileVisitResult.SKIP_SUBTREE;
                }
                Files.createDirectory(to.resolve(from.relativize(folder)));
                return FileVisitResult.CONTINUE;
            }

            @Override
            public FileVisitResult visitFile(Path file, BasicFileAttributes known) throws IOException {
                Files.copy(file, to.resolve(from.relativize(file)), StandardCopyOption.COPY_ATTRIBUTES);
                return FileVisitResult.CONTINUE;
            }
        });
    }

    static void remove(Path folder) throws IOException {
        Files.walkFileTree(folder, new SimpleFileVisitor<Path>() {
            @Override
            public FileVisitResult visitFile(Path file, BasicFileAttributes known) throws IOException {
                Files.delete(file);
                return FileVisitResult.CONTINUE;
            }

            @Override
            public FileVisitResult postVisitDirectory(Path folder, IOException failed) throws IOException {
                Files.delete(folder);
                return FileVisitResult.CONTINUE;
            }
        });
    }
}
