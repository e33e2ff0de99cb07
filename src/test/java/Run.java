import java.lang.reflect.InvocationTargetException;
import java.lang.reflect.Method;
import java.lang.reflect.Modifier;
import java.nio.charset.StandardCharsets;
import java.util.ArrayList;
import java.util.HashMap;
import java.util.List;
import java.util.Map;
import java.util.NoSuchElementException;

/**
 * A run of calls on one object, each written as a text: man(0, 7). A boolean counts 1 or 0, led's exception THREW.
 * No run has more than the 512 calls that are promised. What is refused must leave all else as it was: two objects
 * that have the same run behind them, one with the refused call and one without, must tell the same.
 */
final class Run {
    static final long THREW = Check.THREW;

    private static final int PROMISED = 512;
    private static final Map<String, Method> FACE = face();

    private final AntlerYear year = new AntlerYear();
    private final List<String> calls = new ArrayList<>();

    static Run told(String text) {
        Run run = new Run();
        Check.due("a duchy of '" + text + "'", run.tell(text) >= 1, true);
        return run;
    }

    /** Feeds a text, with blanks up to the next twenty bytes. */
    Run feed(String text) {
        byte[] bytes = text.getBytes(StandardCharsets.ISO_8859_1);
        for (int at = 0; at < bytes.length; at += 20) {
            StringBuilder numbers = new StringBuilder();
            for (int i = 0; i < 20; i += 4) {
                numbers.append(i == 0 ? "" : ", ").append(Check.four(bytes, at + i));
            }
            does("feed(" + numbers + ")");
        }
        return this;
    }

    long tell(String text) {
        feed(text);
        return does("duchy(" + text.length() + ")");
    }

    long does(String call) {
        calls.add(call);
        Check.due("a run of at most 512 calls", calls.size() <= PROMISED, true);
        return answer(year, call);
    }

    /** A call's answer, whatever TROUBLE is behind it. */
    Run asks(String call, long want) {
        Check.due(call, does(call), want);
        return this;
    }

    /** A call that is not refused: TROUBLE is 0 behind it, though it was not ahead of it. */
    Run gives(String call, long want) {
        does("duchy(-1)");
        return asks(call, want).asks("trouble()", 0);
    }

    /** A call that is not refused and changes nothing. */
    Run tells(String call, long want) {
        return changesNothing(call).gives(call, want);
    }

    /** A refused call: its answer, its TROUBLE, which was another one ahead of it, and nothing else is changed. */
    Run refuses(String call, long want, int trouble) {
        changesNothing(call);
        does(trouble == 2 ? "man(-1, 0)" : "duchy(-1)");
        return asks(call, want).asks("trouble()", trouble);
    }

    /** The numbers at the sign # next to those in bounds, and the farthest ones, are refused. */
    Run refusesBeyond(String call, int least, int most, long want, int trouble) {
        for (int number : new int[] {least - 1, most + 1, Integer.MIN_VALUE, Integer.MAX_VALUE}) {
            refuses(call.replace("#", Integer.toString(number)), want, trouble);
        }
        return this;
    }

    Run changesNothing(String call) {
        Run with = again();
        with.does(call);
        Check.same("all behind " + call, with.all(true), again().all(true));
        return this;
    }

    /** A call of which no number is told: TROUBLE stays. */
    Run leavesTrouble(String call, long want) {
        does("man(-1, 0)");
        asks(call, want).asks("trouble()", 1);
        does("duchy(-1)");
        return asks(call, want).asks("trouble()", 2);
    }

    /** Another object with the same calls behind it. */
    Run again() {
        Run other = new Run();
        for (String call : calls) {
            other.does(call);
        }
        return other;
    }

    /** All that can be told of the object: now, behind each undoing, and by each image. It is used up by that. */
    String all(boolean tapeAndFault) {
        StringBuilder told = new StringBuilder();
        if (tapeAndFault) {
            told.append(does("size(13)")).append(' ').append(does("fault()")).append(' ');
        }
        for (int what = 0; what <= 12; what++) {
            told.append(does("size(" + what + ")")).append(' ');
        }
        rows(told, "man", does("size(4)"), new int[] {0, 1, 2, 3});
        rows(told, "debt", does("size(5)"), new int[] {0, 1, 2, 3});
        rows(told, "door", does("size(7)"), new int[] {0, 2});
        told.append(does("fits()")).append(' ').append(does("judge()"));
        for (long n = does("size(11)"); n > 0; n--) {
            does("undo()");
            told.append(" undone: ");
            moment(told);
        }
        for (long n = does("size(12)") - 1; n >= 0; n--) {
            does("back(" + n + ")");
            told.append(" back: ");
            moment(told);
        }
        return told.toString();
    }

    private void moment(StringBuilder told) {
        told.append(does("size(10)")).append(' ');
        rows(told, "man", does("size(4)"), new int[] {1});
        rows(told, "debt", does("size(5)"), new int[] {2});
    }

    private void rows(StringBuilder told, String name, long count, int[] whats) {
        for (int i = 0; i < count; i++) {
            for (int what : whats) {
                told.append(does(name + "(" + i + ", " + what + ")")).append(' ');
            }
        }
    }

    private static Map<String, Method> face() {
        Map<String, Method> face = new HashMap<>();
        for (Method method : AntlerYear.class.getDeclaredMethods()) {
            if (Modifier.isPublic(method.getModifiers())) {
                face.put(method.getName(), method);
            }
        }
        return face;
    }

    private static long answer(AntlerYear year, String call) {
        String name = call.substring(0, call.indexOf('('));
        String inside = call.substring(call.indexOf('(') + 1, call.length() - 1);
        String[] words = inside.isEmpty() ? new String[0] : inside.split(", ");
        Object[] with = new Object[words.length];
        for (int i = 0; i < words.length; i++) {
            boolean truth = words[i].equals("true") || words[i].equals("false");
            with[i] = truth ? (Object) Boolean.valueOf(words[i]) : (Object) Integer.valueOf(words[i]);
        }
        try {
            Object answer = FACE.get(name).invoke(year, with);
            return answer instanceof Boolean truth ? (truth ? 1 : 0) : ((Number) answer).longValue();
        } catch (InvocationTargetException e) {
            Check.due(call + " threw " + e.getCause(), e.getCause() instanceof NoSuchElementException, true);
            return THREW;
        } catch (IllegalAccessException e) {
            throw new IllegalStateException(e);
        }
    }
}
