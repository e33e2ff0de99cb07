import java.io.IOException;
import java.lang.reflect.Field;
import java.lang.reflect.Method;
import java.net.URL;
import java.net.URLClassLoader;
import java.nio.file.Files;
import java.nio.file.Path;
import java.util.ArrayList;
import java.util.List;
import java.util.Set;
import java.util.concurrent.Callable;
import java.util.concurrent.ExecutionException;
import java.util.concurrent.ExecutorService;
import java.util.concurrent.Executors;
import java.util.concurrent.Future;
import javax.tools.ToolProvider;

/**
 * Each promise has a test of its own that fails if the promise is broken: the class is put behind a face that breaks
 * one promise in one way, and then the edge tests must find an answer that is not as due under that promise's own words.
 */
public final class BrokenTest {
    /** Calls of which no number is told: they are never refused, and leave TROUBLE as it is. */
    private static final Set<String> NEVER_REFUSED = Set.of("feed", "fault", "where", "led", "size", "trouble");
    private static final Set<String> ACTS = Set.of("pay", "letOff", "shed", "spring");

    private BrokenTest() {
    }

    public static void main(String[] args) throws IOException, InterruptedException, ExecutionException {
        Path folder = Files.createTempDirectory("broken");
        URL[] classes = {compiled(folder).toUri().toURL(),
            EdgesTest.class.getProtectionDomain().getCodeSource().getLocation()};
        ExecutorService threads = Executors.newFixedThreadPool(Runtime.getRuntime().availableProcessors());
        List<String> names = new ArrayList<>();
        List<Future<Boolean>> found = new ArrayList<>();
        List<String[]> breaks = breaks();
        for (String[] row : breaks) {
            names.add("Promise " + row[0] + ", broken by '" + row[1] + " " + row[2] + "', is found by its own test");
            found.add(threads.submit(new Trial(classes, row)));
        }
        for (int promise = 1; promise <= FaceTest.FACE.length + 1; promise++) {
            names.add("Promise " + promise + ", whole, fails no test of its own");
            found.add(threads.submit(new Trial(classes, new String[] {Integer.toString(promise), "", "whole"})));
        }
        for (int i = 0; i < names.size(); i++) {
            Check.due(names.get(i), found.get(i).get(), i < breaks.size());
        }
        threads.shutdown();
        ReadmeTest.remove(folder);
        Check.end();
    }

    /** Rows of a promise, its call, and the way it is broken. */
    private static List<String[]> breaks() {
        List<String[]> rows = new ArrayList<>();
        rows.add(new String[] {"1", "AntlerYear", "answer"});
        for (int i = 0; i < FaceTest.FACE.length; i++) {
            String name = nameOf(FaceTest.FACE[i]);
            for (String way : ways(name)) {
                rows.add(new String[] {Integer.toString(i + 2), name, way});
            }
        }
        return rows;
    }

    private static List<String> ways(String name) {
        List<String> ways = new ArrayList<>(List.of("answer", "changes"));
        if (!NEVER_REFUSED.contains(name)) {
            ways.addAll(List.of("refusal", "granted"));
        }
        if (name.equals("led")) {
            ways.add("refusal");
        }
        if (!name.equals("trouble")) {
            ways.add("trouble");
        }
        if (ACTS.contains(name)) {
            ways.add("idle");
        }
        return ways;
    }

    private static String nameOf(String call) {
        return call.substring(call.indexOf(' ') + 1, call.indexOf('('));
    }

    /** The class under another name, and a face in front of it. */
    private static Path compiled(Path folder) throws IOException {
        String whole = Files.readString(Path.of("src/main/java/AntlerYear.java"));
        Path wholeFile = folder.resolve("Whole.java");
        Path faceFile = folder.resolve("AntlerYear.java");
        Files.writeString(wholeFile, whole.replaceAll("\\bAntlerYear\\b", "Whole"));
        Files.writeString(faceFile, face());
        Path out = Files.createDirectory(folder.resolve("out"));
        Check.due("the broken face compiles", ToolProvider.getSystemJavaCompiler().run(null, null, null, "-d",
            out.toString(), wholeFile.toString(), faceFile.toString()), 0);
        return out;
    }

    private static String face() {
        StringBuilder text = new StringBuilder("""
            public final class AntlerYear {
                public static final int NONE = -1;
                static String call = "";
                static String way = "";
                private final Whole whole = new Whole();
                private int told = -1;

                public AntlerYear() {
                    if (call.equals("AntlerYear")) {
                        byte[] text = "duchy tine 1 errs 0 lock 0 moth 0;man a duke coins 0 strong 0   ".getBytes();
                        for (int at = 0; at < 60; at += 20) {
                            whole.feed(four(text, at), four(text, at + 4), four(text, at + 8), four(text, at + 12),
                                four(text, at + 16));
                        }
                        whole.duchy(60);
                    }
                }

                private static int four(byte[] text, int at) {
                    return text[at] << 24 | text[at + 1] << 16 | text[at + 2] << 8 | text[at + 3];
                }

                private int heard() {
                    return told < 0 ? whole.trouble() : told;
                }

                private boolean isBroken(String name, String by) {
                    return call.equals(name) && way.equals(by);
                }

                private long broken(String name, long answer, int ahead) {
                    boolean refused = whole.trouble() != 0;
                    told = isBroken(name, "granted") && !refused ? ahead : -1;
                    if (isBroken(name, "trouble") && refused) {
                        told = 7;
                    }
                    if (isBroken(name, "changes")) {
                        whole.feed(0, 0, 0, 0, 0);
                    }
                    if (isBroken(name, "idle") && !refused) {
                        whole.undo();
                    }
                    return isBroken(name, refused ? "refusal" : "answer") ? answer + 1 : answer;
                }

                private long brokenTelling(String name, long answer) {
                    if (isBroken(name, "trouble")) {
                        told = 7;
                    }
                    if (isBroken(name, "changes")) {
                        whole.feed(0, 0, 0, 0, 0);
                    }
                    return isBroken(name, "answer") ? answer + 1 : answer;
                }
            """);
        for (String call : FaceTest.FACE) {
            text.append(method(call));
        }
        return text.append("}\n").toString();
    }

    private static String method(String call) {
        String name = nameOf(call);
        String type = call.substring(0, call.indexOf(' '));
        String inside = call.substring(call.indexOf('(') + 1, call.indexOf(')'));
        String[] types = inside.isEmpty() ? new String[0] : inside.split(", ");
        StringBuilder with = new StringBuilder();
        StringBuilder parameters = new StringBuilder();
        for (int i = 0; i < types.length; i++) {
            with.append(i == 0 ? "" : ", ").append("p").append(i);
            parameters.append(i == 0 ? "" : ", ").append(types[i]).append(" p").append(i);
        }
        String whole = name.equals("trouble") ? "heard()" : "whole." + name + "(" + with + ")";
        String head = "    public " + type + " " + name + "(" + parameters + ")" + call.substring(call.indexOf(')') + 1)
            + " {\n";
        if (name.equals("led")) {
            head += "        if (isBroken(\"led\", \"refusal\")) {\n            try {\n                whole.led(p0);\n"
                + "            } catch (java.util.NoSuchElementException e) {\n                return NONE;\n"
                + "            }\n        }\n";
        }
        if (NEVER_REFUSED.contains(name)) {
            return head + "        return (" + type + ") brokenTelling(\"" + name + "\", " + whole + ");\n    }\n";
        }
        head += "        int ahead = heard();\n";
        if (type.equals("boolean")) {
            // One more than 1 is odd no longer: the other answer.
            return head + "        return broken(\"" + name + "\", " + whole + " ? 1 : 0, ahead) % 2 == 1;\n    }\n";
        }
        return head + "        return (" + type + ") broken(\"" + name + "\", " + whole + ", ahead);\n    }\n";
    }

    /** The edge tests with classes of their own, of which the face is broken: whether the promise's own words tell it. */
    private record Trial(URL[] classes, String[] row) implements Callable<Boolean> {
        @Override
        public Boolean call() {
            try (URLClassLoader own = new URLClassLoader(classes, ClassLoader.getPlatformClassLoader())) {
                set(own, "call", row[1]);
                set(own, "way", row[2]);
                run(own, "Check", "quietly");
                run(own, "EdgesTest", "readDocument");
                Method group = own.loadClass("EdgesTest").getDeclaredMethod("runGroupOf", int.class);
                group.setAccessible(true);
                group.invoke(null, Integer.parseInt(row[0]));
                Field wrong = own.loadClass("Check").getDeclaredField("WRONG_ABOUT");
                wrong.setAccessible(true);
                String promise = "Promise " + row[0] + ",";
                return ((Set<?>) wrong.get(null)).stream().anyMatch(about -> about.toString().startsWith(promise));
            } catch (ReflectiveOperationException | IOException e) {
                throw new IllegalStateException(String.join(" ", row), e);
            }
        }

        private static void set(ClassLoader own, String name, String value) throws ReflectiveOperationException {
            Field field = own.loadClass("AntlerYear").getDeclaredField(name);
            field.setAccessible(true);
            field.set(null, value);
        }

        private static void run(ClassLoader own, String test, String name) throws ReflectiveOperationException {
            Method method = own.loadClass(test).getDeclaredMethod(name);
            method.setAccessible(true);
            method.invoke(null);
        }
    }
}
