import java.util.ArrayList;
import java.util.List;
import java.util.regex.Matcher;
import java.util.regex.Pattern;

/** The edges of Terms I: tokens, lines, names, what is in bounds, and the six faults with their places. */
final class TextEdges {
    private static final String[] LINE_WORDS = {"duchy", "man", "owes", "rumour", "door", "invited", "read"};
    private static final String[] OTHER_WORDS = {"tine", "errs", "lock", "moth", "coins", "strong", "spring", "wide",
        "common", "lady", "duke", "freak", "kind", "name", "none", "manx", "doo", "reads"};
    /** Two men, a door. */
    private static final String SMALL = Texts.PLAIN + Texts.men("common 0 0", "lady 0 0") + Texts.doors(0);
    /** All there is room for: five men, seven debts, four rumours, doors and readings, all men invited. */
    static final String FULL = "duchy tine 20 errs 100 lock 100 moth 100"
        + Texts.men("common 99 9", "lady 99 9", "duke 99 9", "freak 99 9", "common 99 9")
        + Texts.owes("a b 99 9", "b c 99 9", "c d 99 9", "d e 99 9", "e a 99 9", "a c 99 9", "a d 99 9")
        + Texts.rumours("a b 99 9", "b a 99 9", "c a 99 9", "e d 99 9") + Texts.doors(40, 40, 40, 40)
        + Texts.invited("a p", "b q", "c r", "d s", "e s") + Texts.reads("a 40", "b 40", "c 40", "e 40");

    private TextEdges() {
    }

    static void run() {
        blanks();
        words();
        wholes();
        partings();
        duchyLine();
        manLine();
        claimLines();
        doorLines();
        readLine();
        names();
        firstFault();
        form();
        untold();
        again();
        outOfBounds();
        many();
        lacks();
        eachLetter();
        eachCut();
    }

    private static void good(String text, int men) {
        Run run = new Run();
        Check.due("duchy of '" + text + "'", run.tell(text), men);
        run.asks("trouble()", 0).asks("fault()", 0).asks("where()", -1).asks("size(4)", men);
    }

    static void fault(String text, int number, int place) {
        Run run = new Run();
        Check.due("duchy of '" + text + "'", run.tell(text), -1);
        run.asks("trouble()", 4);
        Check.due("fault of '" + text + "'", run.does("fault()"), number);
        Check.due("where of '" + text + "'", run.does("where()"), place);
        run.asks("size(4)", 0).asks("size(0)", 0);
    }

    /** A fault at the sign # of a text, in the place of which the words stand. */
    private static void at(String text, String words, int number) {
        fault(text.replace("#", words), number, text.indexOf('#'));
    }

    private static void blanks() {
        Doc.says("Terms I", "blanks, 32, part TOKENS and mean nothing else");
        good("   duchy   tine 1 errs 0 lock 0 moth 0 ; man  a common coins 0 strong 0   ", 1);
        good("duchy tine1errs0lock0moth0;man a common coins0strong0", 1);
        for (int sign = 0; sign < 256; sign++) {
            fault(String.valueOf((char) sign) + " ".repeat(4), 1, sign == 32 ? 5 : 0);
            if (sign != 32) {
                fault("duchy" + (char) sign + "tine 1", 1, sign >= 'a' && sign <= 'z' ? 0 : 5);
            }
        }
        fault("du chy tine 1", 1, 0);
        fault("duchytine 1", 1, 0);
        at("duchy tine 1 #", "0 errs 0", 1);
    }

    private static void words() {
        Doc.says("Terms I", "WORDS of 1 to 8 small letters that stand together");
        good(Texts.PLAIN + ";man a common coins 0 strong 0;man z lady coins 0 strong 0", 2);
        good(Texts.PLAIN + ";man abcdefgh common coins 0 strong 0", 1);
        good(Texts.PLAIN + ";man zzzzzzzz common coins 0 strong 0;man zzzzzzzy common coins 0 strong 0"
            + ";man zzzzzzz common coins 0 strong 0;man aaaaaaaa common coins 0 strong 0;man a lady coins 0 strong 0",
            5);
        at(Texts.PLAIN + ";man # common coins 0 strong 0", "abcdefghi", 1);
        at(Texts.PLAIN + ";man # common coins 0 strong 0", "abcdefghabcdefgh", 1);
        at("# tine 1", "duchyduch", 1);
        for (String sign : new String[] {"A", "Z", "`", "{", "@", "[", "_", "-", "."}) {
            at(Texts.PLAIN + ";man # common coins 0 strong 0", sign, 1);
            fault(Texts.PLAIN + ";man x" + sign + " common coins 0 strong 0", 1, Texts.PLAIN.length() + 6);
        }
    }

    private static void wholes() {
        Doc.says("Terms I", "WHOLES of 1 to 3 digits that do");
        for (String zero : new String[] {"0", "00", "000"}) {
            good(Texts.PLAIN + ";man a common coins " + zero + " strong " + zero, 1);
            at(Texts.PLAIN + ";man a common coins # strong 0", zero + "0".repeat(4 - zero.length()), 1);
        }
        Run.told("duchy tine 020 errs 09 lock 100 moth 007" + Texts.commons(1)).asks("size(0)", 20).asks("size(1)", 9)
            .asks("size(2)", 100).asks("size(3)", 7);
        at("duchy tine # errs 0", "0001", 1);
        at("duchy tine # errs 0", "00001", 1);
        for (String sign : new String[] {"/", ":", "-1", "+1", ".5", "x"}) {
            at("duchy tine # errs 0", sign, 1);
        }
        fault("duchy tine 1/", 1, 12);
        fault("duchy tine 1:", 1, 12);
    }

    private static void partings() {
        Doc.says("Terms I", "single ones of ;");
        at(Texts.PLAIN + ";#", ";man a common coins 0 strong 0", 1);
        at(Texts.PLAIN + Texts.commons(1) + ";#", ";", 1);
        at(Texts.PLAIN + "#man a common coins 0 strong 0", ":", 1);
        at(Texts.PLAIN + "#man a common coins 0 strong 0", "<", 1);
        at(Texts.PLAIN + "#man a common coins 0 strong 0", ",", 1);
        Doc.says("Terms I", "THE TEXT of a DUCHY");
        Doc.says("Terms I", "TOKENS:");
        Doc.says("Terms I", "LINE {; LINE}. LINE, one of:");
        at("#", ";" + Texts.PLAIN + Texts.commons(1), 1);
        at(Texts.PLAIN + Texts.commons(1) + ";#", "", 1);
        at(Texts.PLAIN + Texts.commons(1) + ";   #", "", 1);
        at(Texts.PLAIN + Texts.commons(1) + " #", "man b common coins 0 strong 0", 1);
        at(Texts.PLAIN + Texts.commons(1) + " #", "0", 1);
        at(Texts.PLAIN + Texts.commons(1) + ";#", "0", 1);
        at(Texts.PLAIN + Texts.commons(1) + ";#", "mann b", 1);
        good(Texts.PLAIN + Texts.commons(1), 1);
    }

    /** The least and the greatest WHOLE at the sign #, told again by a call, and the next ones on either side. */
    private static void whole(String text, int least, int most, String call) {
        for (int value : new int[] {least, least + 1, most - 1, most}) {
            Run run = Run.told(text.replace("#", Integer.toString(value)));
            if (!call.isEmpty()) {
                run.asks(call, value);
            }
        }
        if (least > 0) {
            at(text, Integer.toString(least - 1), 4);
        }
        for (int value : new int[] {most + 1, most + 10, 999}) {
            at(text, Integer.toString(value), 4);
        }
    }

    /** As many LINES more as there is room for, counted by size; then the fault at the WORD of the last one. */
    private static void room(String text, int what, String... lines) {
        String all = text;
        long count = Run.told(all).does("size(" + what + ")");
        for (int n = 0; n < lines.length - 1; n++) {
            all += ";" + lines[n];
            Run.told(all).asks("size(" + what + ")", count + n + 1);
        }
        String next = lines[lines.length - 1];
        at(all + ";#", next, 5);
        at(all + ";#", next.substring(0, next.indexOf(' ')), 5);
        at(all + ";#", next.substring(0, next.indexOf(' ')) + " !", 5);
    }

    private static void duchyLine() {
        Doc.says("Terms I", "duchy tine WHOLE errs WHOLE lock WHOLE moth WHOLE "
            + "(1 .. 20 coins; 0 .. 100 in a hundred each), ahead of all others");
        String man = Texts.commons(1);
        whole("duchy tine # errs 0 lock 0 moth 0" + man, 1, 20, "size(0)");
        whole("duchy tine 1 errs # lock 0 moth 0" + man, 0, 100, "size(1)");
        whole("duchy tine 1 errs 0 lock # moth 0" + man, 0, 100, "size(2)");
        whole("duchy tine 1 errs 0 lock 0 moth #" + man, 0, 100, "size(3)");
        for (String line : new String[] {"man a", "owes a b", "rumour a b", "door p", "invited a p", "read a 0"}) {
            at("#", line + ";" + Texts.PLAIN, 6);
        }
        good(Texts.PLAIN + Texts.commons(1), 1);
    }

    private static void manLine() {
        Doc.says("Terms I", "man NAME KIND coins WHOLE strong WHOLE "
            + "(KIND: common, lady, duke, or freak; 0 .. 99; 0 .. 9; up to 5)");
        String[] kinds = {"common", "lady", "duke", "freak"};
        for (int kind = 0; kind < 4; kind++) {
            Run.told(Texts.PLAIN + Texts.men(kinds[kind] + " 0 0")).asks("man(0, 0)", kind);
            at(Texts.PLAIN + ";man a # coins 0 strong 0", kinds[kind] + "s", 1);
            at(Texts.PLAIN + ";man a # coins 0 strong 0", kinds[kind].substring(1), 1);
            at(Texts.PLAIN + ";man a # coins 0 strong 0", Integer.toString(kind), 1);
        }
        whole(Texts.PLAIN + ";man a duke coins # strong 0", 0, 99, "man(0, 1)");
        whole(Texts.PLAIN + ";man a duke coins 0 strong #", 0, 9, "man(0, 2)");
        room(Texts.PLAIN + Texts.commons(1), 4, "man b duke coins 0 strong 0", "man c duke coins 0 strong 0",
            "man d duke coins 0 strong 0", "man e duke coins 0 strong 0", "man f duke coins 0 strong 0");
    }

    private static void claimLines() {
        Doc.says("Terms I", "owes MAN MAN WHOLE spring WHOLE, or rumour MAN MAN WHOLE spring WHOLE "
            + "(unlike; the first one owes the second one; 1 .. 99; 0 .. 9; up to 7; up to 4)");
        Run.told(SMALL + ";owes b a 5 spring 0").asks("debt(0, 0)", 1).asks("debt(0, 1)", 0);
        whole(SMALL + ";owes a b # spring 0", 1, 99, "debt(0, 2)");
        whole(SMALL + ";owes a b 1 spring #", 0, 9, "debt(0, 3)");
        whole(SMALL + ";rumour a b # spring 0", 1, 99, "");
        whole(SMALL + ";rumour a b 1 spring #", 0, 9, "");
        Run.told(SMALL + ";rumour a b 99 spring 0").asks("headIs(0, 99, true)", 2).asks("headIs(1, 0, true)", 1);
        for (String word : new String[] {"owes", "rumour"}) {
            at(SMALL + ";" + word + " a # 1 spring 0", "a", 3);
            at(SMALL + ";" + word + " b # 1 spring 0", "b", 3);
        }
        String[] debts = new String[8];
        String[] rumours = new String[5];
        java.util.Arrays.fill(debts, "owes a b 1 spring 0");
        java.util.Arrays.fill(rumours, "rumour a b 1 spring 0");
        room(SMALL, 5, debts);
        room(SMALL, 6, rumours);
        String both = SMALL + Texts.owes("a b 1 0", "a b 1 0", "a b 1 0", "a b 1 0", "a b 1 0", "a b 1 0", "a b 1 0");
        room(both, 6, rumours);
    }

    private static void doorLines() {
        Doc.says("Terms I", "door NAME wide WHOLE (0 .. 40; up to 4), or invited MAN DOOR (each man once)");
        whole(Texts.PLAIN + Texts.commons(1) + ";door p wide #", 0, 40, "door(0, 0)");
        room(Texts.PLAIN + Texts.commons(1), 7, "door p wide 0", "door q wide 1", "door r wide 2", "door s wide 40",
            "door t wide 0");
        String five = Texts.PLAIN + Texts.commons(5) + Texts.doors(1, 2);
        Run.told(five + Texts.invited("a p", "b p", "c p", "d p", "e q")).asks("size(8)", 5).asks("door(0, 2)", 15)
            .asks("door(1, 2)", 16);
        for (String man : new String[] {"a", "b", "c", "d", "e"}) {
            at(five + Texts.invited("a p", "b p", "c p", "d p", "e q") + ";invited # q", man, 3);
        }
        at(five + ";invited a p;invited # p", "a", 3);
    }

    private static void readLine() {
        Doc.says("Terms I", "read MAN WHOLE (0 .. 40; up to 4)");
        whole(Texts.PLAIN + Texts.commons(1) + ";read a #", 0, 40, "");
        for (int head : new int[] {0, 40}) {
            String text = Texts.PLAIN + Texts.commons(2) + (head == 0 ? "" : Texts.owes("a b 40 0"));
            Run.told(text + ";read a " + head).asks("fits()", 1);
            Run.told(text + ";read a " + (head == 0 ? 1 : 39)).asks("fits()", 0);
        }
        room(Texts.PLAIN + Texts.commons(1), 9, "read a 0", "read a 40", "read a 0", "read a 1", "read a 0");
    }

    private static void names() {
        Doc.says("Terms I", "NAMES are WORDS but duchy, man, owes, rumour, door, invited, read");
        for (String word : LINE_WORDS) {
            at(Texts.PLAIN + ";man # common coins 0 strong 0", word, 1);
            at(Texts.PLAIN + Texts.commons(1) + ";door # wide 0", word, 1);
            at(SMALL + ";owes # b 1 spring 0", word, 1);
            at(SMALL + ";owes a # 1 spring 0", word, 1);
            at(SMALL + ";rumour # b 1 spring 0", word, 1);
            at(SMALL + ";rumour a # 1 spring 0", word, 1);
            at(SMALL + ";invited # p", word, 1);
            at(SMALL + ";invited a #", word, 1);
            at(SMALL + ";read # 0", word, 1);
        }
        for (String word : OTHER_WORDS) {
            good(Texts.PLAIN + ";man " + word + " common coins 0 strong 0;man x duke coins 0 strong 0;owes " + word
                + " x 1 spring 0;owes x " + word + " 1 spring 0;read " + word + " 0", 2);
            good(Texts.PLAIN + Texts.commons(1) + ";door " + word + " wide 0;invited a " + word, 1);
        }
        Doc.says("Terms I", "each told once, ahead of its use.");
        at(Texts.PLAIN + Texts.commons(1) + ";owes a # 1 spring 0;man b common coins 0 strong 0", "b", 2);
        at(Texts.PLAIN + Texts.commons(1) + ";invited a #;door p wide 0", "p", 2);
        at(Texts.PLAIN + ";read # 0" + Texts.commons(1), "a", 2);
        at(SMALL + ";man # common coins 0 strong 0", "a", 3);
        at(SMALL + ";man # common coins 0 strong 0", "b", 3);
        at(SMALL + ";man # common coins 0 strong 0", "p", 3);
        at(SMALL + ";door # wide 0", "a", 3);
        at(SMALL + ";door # wide 0", "p", 3);
        good(SMALL + ";man aa common coins 0 strong 0;door pp wide 0;man ab duke coins 0 strong 0;invited aa pp", 4);
        for (char letter = 'a'; letter <= 'z'; letter++) {
            // Names of one letter only: by how often it stands there they are unlike.
            StringBuilder text = new StringBuilder(Texts.PLAIN);
            for (int length : new int[] {1, 2, 3, 7, 8}) {
                text.append(";man ").append(String.valueOf(letter).repeat(length)).append(" duke coins 0 strong 0");
            }
            good(text.toString(), 5);
        }
    }

    private static void firstFault() {
        Doc.says("Terms I", "FAULTS, the first that is met from the left, of one place the least number:");
        // Two faults: the one on the left is told, whichever has the lesser number.
        fault("duchy tine 0 errs x", 4, 11);
        fault("duchy tine x errs 101", 1, 11);
        fault("man !", 6, 0);
        at(SMALL + ";owes # z 0", "z", 2);
        at(SMALL + ";owes a # 0", "a", 3);
        at(SMALL + ";owes a b # x", "0", 4);
        at(SMALL + ";owes a b 1 spring #;owes z", "10", 4);
        at(Texts.PLAIN + Texts.commons(5) + ";# a", "man", 5);
        at(Texts.PLAIN + ";# tine 0", "duchy", 3);
        // Two faults of one place: no TOKEN, and no NAME that is told; no WHOLE, and out of bounds; the end.
        at(SMALL + ";read # 0", "abcdefghi", 1);
        at(SMALL + ";read # 0", "man", 1);
        at(SMALL + ";read a #", "0041", 1);
        at(Texts.PLAIN + ";#", "", 1);
        at("#", "", 1);
    }

    private static List<int[]> tokens(String text) {
        List<int[]> places = new ArrayList<>();
        Matcher token = Pattern.compile("[a-z]+|[0-9]+|;").matcher(text);
        while (token.find()) {
            places.add(new int[] {token.start(), token.end()});
        }
        return places;
    }

    private static void form() {
        Doc.says("Terms I", "1 FORM: the first byte that begins no TOKEN, or TOKEN with which no DUCHY goes on "
            + "(the end: its place).");
        String text = SMALL + ";owes a b 1 spring 0;rumour b a 1 spring 0;invited a p;read b 0";
        for (int[] token : tokens(text)) {
            String ahead = text.substring(0, token[0]);
            String behind = text.substring(token[1]);
            boolean parting = text.charAt(token[0]) == ';';
            for (String wrong : new String[] {"!", "A", "\u00e9", "\u0000", "0000", "abcdefghi", parting ? "x" : ";"}) {
                fault(ahead + (parting ? " " : "") + wrong + " " + behind, 1, token[0] + (parting ? 1 : 0));
            }
            if (!parting) {
                fault(ahead, 1, token[0]);
                fault(ahead + "   ", 1, token[0] + 3);
            }
        }
        fault("   ", 1, 3);
        at(SMALL + ";read a 0 #", "!", 1);
        at(SMALL + ";read a 0 #", "0", 1);
        at(SMALL + ";read a 0 #", "x", 1);
    }

    private static void untold() {
        Doc.says("Terms I", "2 a NAME that isn't told, or is of another sort than must stand there; at it.");
        for (String name : new String[] {"z", "p", "aa", "tine", "common"}) {
            at(SMALL + ";owes # b 1 spring 0", name, 2);
            at(SMALL + ";owes a # 1 spring 0", name, 2);
            at(SMALL + ";rumour # b 1 spring 0", name, 2);
            at(SMALL + ";rumour a # 1 spring 0", name, 2);
            at(SMALL + ";invited # p", name, 2);
            at(SMALL + ";read # 0", name, 2);
        }
        for (String name : new String[] {"z", "a", "b", "pp", "wide"}) {
            at(SMALL + ";invited a #", name, 2);
        }
    }

    private static void again() {
        Doc.says("Terms I", "3 a NAME told again; at it;");
        at(SMALL + ";man # duke coins 0 strong 0", "a", 3);
        at(SMALL + ";man #", "p", 3);
        at(SMALL + ";door # wide 0", "p", 3);
        at(SMALL + ";door #", "b", 3);
        Doc.says("Terms I", "a second MAN that is the first; at it;");
        at(SMALL + ";owes b # 1 spring 0", "b", 3);
        at(SMALL + ";rumour a #", "a", 3);
        Doc.says("Terms I", "a MAN who is invited already; at it;");
        at(SMALL + ";invited b p;invited # p", "b", 3);
        at(SMALL + ";invited b p;invited a p;invited #", "b", 3);
        Doc.says("Terms I", "a second duchy: at that WORD.");
        at(Texts.PLAIN + ";#", Texts.PLAIN, 3);
        at(SMALL + ";#", "duchy", 3);
        at(SMALL + ";#", "duchy !", 3);
    }

    private static void outOfBounds() {
        Doc.says("Terms I", "4 a WHOLE out of bounds; at it.");
        at("duchy tine #", "0", 4);
        at("duchy tine #", "21", 4);
        at("duchy tine # errs 0", "000", 4);
        at(SMALL + ";owes a b # spring 0", "00", 4);
        at(SMALL + ";owes a b # spring 0", "100", 4);
        at(SMALL + ";read a #", "041", 4);
    }

    private static void many() {
        Doc.says("Terms I", "5 MANY: a LINE more of its sort than there is room for, at its first WORD.");
        Check.due("the full text is short enough", FULL.length() <= 900, true);
        Run.told(FULL).asks("size(4)", 5).asks("size(5)", 7).asks("size(6)", 4).asks("size(7)", 4).asks("size(8)", 5)
            .asks("size(9)", 4);
        String[] lines = {"man f common coins 0 strong 0", "owes a b 1 spring 0", "rumour a b 1 spring 0",
            "door t wide 0", "read a 0"};
        for (String line : lines) {
            at(FULL + ";#", line, 5);
            at(FULL + " ; #", line.substring(0, line.indexOf(' ')), 5);
        }
        at(FULL + ";invited # p", "a", 3);
    }

    private static void lacks() {
        Doc.says("Terms I", "6 LACKS: any LINE ahead of the duchy; at its WORD;");
        for (String word : LINE_WORDS) {
            if (!word.equals("duchy")) {
                at("#", word, 6);
                at("  #", word + " !", 6);
                at("#", word + ";" + Texts.PLAIN + Texts.commons(1), 6);
            }
        }
        Doc.says("Terms I", "at the end: no man.");
        at(Texts.PLAIN + "#", "", 6);
        at(Texts.PLAIN + "  #", "", 6);
        at(Texts.PLAIN + Texts.doors(1, 2, 3, 4) + "#", "", 6);
        fault(Texts.PLAIN + " ".repeat(900 - Texts.PLAIN.length()), 6, 900);
        good(Texts.PLAIN + Texts.doors(1, 2, 3, 4) + Texts.commons(1), 1);
    }

    /** A word of a LINE with one letter changed is another word: no LINE goes on with it, but a NAME may be so. */
    private static void eachLetter() {
        Check.about("a word with one letter changed");
        String text = SMALL + ";owes a b 1 spring 0;rumour b a 1 spring 0;invited a p;read b 0";
        for (int[] token : tokens(text)) {
            for (int at = token[0]; at < token[1] && token[1] - token[0] > 2; at++) {
                char other = text.charAt(at) == 'x' ? 'y' : 'x';
                fault(text.substring(0, at) + other + text.substring(at + 1), 1, token[0]);
            }
        }
        for (String word : LINE_WORDS) {
            for (int at = 0; at < word.length(); at++) {
                String name = word.substring(0, at) + 'x' + word.substring(at + 1);
                good(Texts.PLAIN + ";man " + name + " common coins 0 strong 0;read " + name + " 0", 1);
            }
        }
    }

    /** The full text cut at each byte, beside the Oracle. */
    private static void eachCut() {
        Check.about("the full text, cut");
        for (int n = 0; n <= FULL.length(); n++) {
            Oracle want = new Oracle(FULL.substring(0, n));
            Run run = new Run().feed(FULL);
            run.asks("duchy(" + n + ")", want.fault == 0 ? want.men() : -1).asks("fault()", want.fault)
                .asks("where()", want.fault == 0 ? -1 : want.place);
        }
    }
}
