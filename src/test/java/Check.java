import java.nio.charset.StandardCharsets;
import java.util.NoSuchElementException;
import java.util.Set;
import java.util.TreeSet;

/** What the tests share: they count answers that are not as due, and tell an object a text. */
final class Check {
    static final int THREW = -777;

    /** A duchy with each kind, debts to come, two rumours, three doors. */
    static final String BASE = "duchy tine 5 errs 20 lock 50 moth 50;man abe common coins 9 strong 4;"
        + "man bea lady coins 30 strong 2;man cal duke coins 40 strong 6;man dov freak coins 3 strong 4;"
        + "owes abe cal 12 spring 0;owes abe bea 6 spring 1;owes cal dov 8 spring 0;owes dov abe 11 spring 0;"
        + "owes bea cal 20 spring 0;owes dov cal 1 spring 2;rumour abe dov 7 spring 0;rumour cal abe 5 spring 0;"
        + "door great wide 6;door low wide 2;door hole wide 0;invited abe low;invited cal great;invited dov hole;"
        + "read abe 4;read cal 4";

    /** What those answers were about that were not as due. */
    static final Set<String> WRONG_ABOUT = new TreeSet<>();

    private static int right = 0;
    private static int wrong = 0;
    private static int printed = 50;
    private static String about = "";

    private Check() {
    }

    /** What the next answers are about, printed ahead of those that are not as due. */
    static void about(String words) {
        about = words.isEmpty() ? "" : words + ": ";
    }

    /** Nothing is printed of answers that are not as due; they are counted all the same. */
    static void quietly() {
        printed = 0;
    }

    static void due(String what, long got, long want) {
        // No text is made of an answer that is as due: RoomTest counts what is made.
        if (got == want) {
            right++;
        } else {
            tellWrong(what, Long.toString(got), Long.toString(want));
        }
    }

    static void same(String what, String got, String want) {
        if (got.equals(want)) {
            right++;
        } else {
            tellWrong(what, got, want);
        }
    }

    private static void tellWrong(String what, String got, String want) {
        wrong++;
        WRONG_ABOUT.add(about);
        if (wrong <= printed) {
            System.out.println(about + what + " answered " + got + ", due is " + want);
        }
    }

    static void due(String what, boolean got, boolean want) {
        due(what, got ? 1 : 0, want ? 1 : 0);
    }

    /** An int answer of a call, with the trouble behind it. */
    static void due(AntlerYear x, String what, long got, long want, int trouble) {
        due(what, got, want);
        due("trouble() behind " + what, x.trouble(), trouble);
    }

    /** Feeds a text, with blanks up to the next twenty bytes, and makes it the duchy. */
    static int tell(AntlerYear x, String text) {
        byte[] bytes = text.getBytes(StandardCharsets.ISO_8859_1);
        for (int at = 0; at < bytes.length; at += 20) {
            x.feed(four(bytes, at), four(bytes, at + 4), four(bytes, at + 8), four(bytes, at + 12), four(bytes, at + 16));
        }
        return x.duchy(bytes.length);
    }

    static AntlerYear told(String text) {
        AntlerYear x = new AntlerYear();
        if (tell(x, text) < 1) {
            tellWrong("duchy of " + text, "fault " + x.fault() + " at " + x.where(), "no fault");
        }
        return x;
    }

    static int four(byte[] bytes, int at) {
        int number = 0;
        for (int i = at; i < at + 4; i++) {
            number = number << 8 | (i < bytes.length ? bytes[i] & 255 : 32);
        }
        return number;
    }

    static int led(AntlerYear x, int i) {
        try {
            return x.led(i);
        } catch (NoSuchElementException e) {
            return THREW;
        }
    }

    static void end() {
        System.out.println(right + " answers as due, " + wrong + " not");
        if (wrong != 0 || right == 0) {
            System.exit(1);
        }
    }
}
