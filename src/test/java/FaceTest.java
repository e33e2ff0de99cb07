import java.io.IOException;
import java.lang.reflect.Constructor;
import java.lang.reflect.Field;
import java.lang.reflect.Method;
import java.lang.reflect.Modifier;
import java.nio.file.Files;
import java.nio.file.Path;
import java.util.ArrayList;
import java.util.Arrays;
import java.util.HashSet;
import java.util.List;
import java.util.Set;
import java.util.TreeSet;
import java.util.regex.Matcher;
import java.util.regex.Pattern;

/** The public face, to the letter, and LANGUAGE.md's rule 1 and rule 5 as far as reflection sees them. */
public final class FaceTest {
    /** The calls in the document's order: the first one is promise 2. */
    static final String[] FACE = {
        "int feed(int, int, int, int, int)", "int duchy(int)", "int fault()", "int where()", "int man(int, int)",
        "int debt(int, int)", "int door(int, int)", "int heads()", "int greatest()", "int bald()",
        "int headIn(int, int)", "int when(int, int)", "int worstSpring()", "int shutIn(int, int)",
        "int payFor(int, int)", "int payAll()", "int passers()", "int shamed()", "int cheapest(int)",
        "int widthFor(int)", "int guests()", "int doorOf(int)", "int ring(int)", "int ringAt(int, int)",
        "int ringSum(int)", "int bestRing()", "int reach(int)", "int fits()", "int fitAt(int)",
        "long likely(int, boolean)", "long headIs(int, int, boolean)", "int likeliest()", "int look()",
        "int lookLeaves()", "int judge()", "int duel(int, int, int, boolean, boolean, boolean)",
        "int rests(int, int, int)", "int rest(int, int, int)", "long locked(int, boolean)",
        "long weeks(int, boolean)", "int moths(int, int, int)", "int eaten(int, int)", "int pay(int, int)",
        "int letOff(int)", "int shed(int)", "int spring()", "boolean undo()", "int image()", "boolean back(int)",
        "int led(int) throws java.util.NoSuchElementException", "int size(int)", "int trouble()"};

    private FaceTest() {
    }

    public static void main(String[] args) throws IOException {
        document();
        Class<?> c = AntlerYear.class;
        Check.due("public", Modifier.isPublic(c.getModifiers()), true);
        Check.due("final", Modifier.isFinal(c.getModifiers()), true);
        Check.due("no package", c.getPackageName().isEmpty(), true);
        Check.due("NONE", AntlerYear.NONE, -1);
        methods(c);
        constructors(c);
        fields(c);
        for (Class<?> inner : c.getDeclaredClasses()) {
            Check.due(inner + " is static", Modifier.isStatic(inner.getModifiers()), true);
            Check.due(inner + " is not public", Modifier.isPublic(inner.getModifiers()), false);
            staticFields(inner);
            namesOf(inner);
        }
        Check.due("at most twelve classes", c.getDeclaredClasses().length < 12, true);
        Check.end();
    }

    /** The face that is looked for is the one that the document writes, call by call. */
    private static void document() throws IOException {
        Pattern call = Pattern.compile(" {4}public (\\w+ \\w+\\()(.*)\\)( throws )?(\\w*);");
        List<String> calls = new ArrayList<>();
        for (String line : Files.readAllLines(Path.of("../shared/DOC.md"))) {
            Matcher written = call.matcher(line);
            if (written.matches()) {
                calls.add(written.group(1) + written.group(2).replaceAll(" \\w+(?=,|$)", "") + ")"
                    + (written.group(3) == null ? "" : " throws java.util." + written.group(4)));
            }
        }
        Check.same("the document's face", String.join("; ", calls), String.join("; ", FACE));
    }

    private static void methods(Class<?> c) {
        Set<String> want = new TreeSet<>(Arrays.asList(FACE));
        Set<String> got = new TreeSet<>();
        for (Method m : c.getDeclaredMethods()) {
            if (!Modifier.isPrivate(m.getModifiers())) {
                Check.due(m + " is public", Modifier.isPublic(m.getModifiers()), true);
                got.add(written(m));
            }
        }
        for (String face : want) {
            Check.due(face + " is there", got.contains(face), true);
        }
        Check.due("no other methods", got.size(), want.size());
        namesOf(c);
    }

    private static String written(Method m) {
        StringBuilder text = new StringBuilder(m.getReturnType().getName()).append(' ').append(m.getName()).append('(');
        for (Class<?> p : m.getParameterTypes()) {
            text.append(text.charAt(text.length() - 1) == '(' ? "" : ", ").append(p.getName());
        }
        text.append(')');
        for (Class<?> e : m.getExceptionTypes()) {
            text.append(" throws ").append(e.getName());
        }
        return text.toString();
    }

    /** No method that isn't of the face bears the name of one that is, and none takes more than seven parameters. */
    private static void namesOf(Class<?> c) {
        Set<String> face = new HashSet<>();
        for (String line : FACE) {
            face.add(line.substring(line.indexOf(' ') + 1, line.indexOf('(')));
        }
        for (Method m : c.getDeclaredMethods()) {
            if (!Modifier.isPublic(m.getModifiers())) {
                Check.due(m + " bears a name of its own", face.contains(m.getName()), false);
            }
            Check.due(m + " has at most seven parameters", m.getParameterCount() <= 7, true);
        }
    }

    private static void constructors(Class<?> c) {
        Constructor<?>[] made = c.getDeclaredConstructors();
        Check.due("one constructor", made.length, 1);
        Check.due("without parameters", made[0].getParameterCount(), 0);
        Check.due("and public", Modifier.isPublic(made[0].getModifiers()), true);
    }

    private static void fields(Class<?> c) {
        for (Field f : c.getDeclaredFields()) {
            boolean constant = f.getName().equals("NONE");
            Check.due(f + " is private but for NONE", Modifier.isPrivate(f.getModifiers()), !constant);
        }
        staticFields(c);
    }

    private static void staticFields(Class<?> c) {
        int own = 0;
        for (Field f : c.getDeclaredFields()) {
            if (Modifier.isStatic(f.getModifiers())) {
                Check.due(f + " is final", Modifier.isFinal(f.getModifiers()), true);
                Check.due(f + " is a number", f.getType().isPrimitive(), true);
            } else {
                own++;
            }
        }
        Check.due(c + " has at most twenty fields", own <= 20, true);
    }
}
