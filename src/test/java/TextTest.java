/** Promises 1 to 5: a new object, THE TAPE, the text and its faults. */
public final class TextTest {
    private static final String HEAD = "duchy tine 1 errs 0 lock 0 moth 0";
    private static final String TWO = HEAD + ";man x common coins 0 strong 0;man y lady coins 0 strong 0;door d wide 0";

    private TextTest() {
    }

    public static void main(String[] args) {
        newObject();
        tape();
        refusedNumbers();
        form();
        names();
        toldAgain();
        bounds();
        many();
        lacks();
        goodTexts();
        faultLeavesDuchy();
        newDuchyForgets();
        Check.end();
    }

    private static void newObject() {
        AntlerYear x = new AntlerYear();
        for (int what = 0; what <= 13; what++) {
            Check.due("size(" + what + ") of a new object", x.size(what), 0);
        }
        Check.due("trouble() of a new object", x.trouble(), 0);
        Check.due("fault() of a new object", x.fault(), 0);
        Check.due("where() of a new object", x.where(), -1);
        Check.due(x, "heads() of a new object", x.heads(), -1, 1);
    }

    private static void tape() {
        AntlerYear x = new AntlerYear();
        for (int n = 1; n <= 45; n++) {
            Check.due("feed " + n, x.feed(0x20202020, 0x20202020, 0x20202020, 0x20202020, 0x20202020), 20 * n);
        }
        x.undo();
        Check.due("feed beyond 900", x.feed(0, 0, 0, 0, 0), -1);
        Check.due("trouble() is not of feed", x.trouble(), 6);
        Check.due("size(13) of a full tape", x.size(13), 900);
        Check.due(x, "duchy(900) of blanks", x.duchy(900), -1, 4);
        Check.due("fault of blanks", x.fault(), 1);
        Check.due("where of blanks", x.where(), 900);
        Check.due("size(13) behind it", x.size(13), 0);
        // "duchy tine 1 errs" with the highest byte of each number first, then byte 255, which begins no token.
        x.feed(0x64756368, 0x79207469, 0x6e652031, 0x20657272, 0x73ff3030);
        Check.due(x, "duchy(20) with byte 255", x.duchy(20), -1, 4);
        Check.due("fault of byte 255", x.fault(), 1);
        Check.due("where of byte 255", x.where(), 17);
    }

    private static void refusedNumbers() {
        AntlerYear x = new AntlerYear();
        Check.due(x, "duchy(-1)", x.duchy(-1), -1, 2);
        Check.due(x, "duchy(1) of nothing", x.duchy(1), -1, 2);
        x.feed(0, 0, 0, 0, 0);
        Check.due(x, "duchy(20) of zeros", x.duchy(20), -1, 4);
        Check.due("fault of zeros", x.fault(), 1);
        Check.due("where of zeros", x.where(), 0);
        x.feed(0, 0, 0, 0, 0);
        Check.due(x, "duchy(21) of 20", x.duchy(21), -1, 2);
        Check.due("size(13) stays", x.size(13), 20);
        Check.due("fault() is not of a call refused by 2", x.fault(), 1);
        Check.due("where() behind a call refused by 2", x.where(), -1);
        Check.due(x, "duchy(0)", x.duchy(0), -1, 4);
        Check.due("fault of no bytes", x.fault(), 1);
        Check.due("where of no bytes", x.where(), 0);
        Check.due("the tape behind duchy(0)", x.size(13), 0);
        Check.due(x, "heads() behind it", x.heads(), -1, 1);
        Check.due("where() behind another call", x.where(), -1);
    }

    private static void fault(String text, int number, int place) {
        AntlerYear x = new AntlerYear();
        Check.due(x, "duchy of '" + text + "'", Check.tell(x, text), -1, 4);
        Check.due("fault of '" + text + "'", x.fault(), number);
        Check.due("where of '" + text + "'", x.where(), place);
        Check.due("trouble() behind fault(), where()", x.trouble(), 4);
        Check.due("men of '" + text + "'", x.size(4), 0);
    }

    /** The fault of the words behind a text, at the last of them. */
    private static void last(String text, String words, int number) {
        int at = words.lastIndexOf(' ') + 1;
        fault(text + ";" + words, number, text.length() + 1 + at);
    }

    private static void form() {
        fault("duchy", 1, 5);
        fault("duchy   ", 1, 8);
        fault(";" + HEAD, 1, 0);
        fault("7", 1, 0);
        fault("x", 1, 0);
        fault("Duchy", 1, 0);
        fault("duchy\ttine", 1, 5);
        fault("tine 5", 1, 0);
        fault("duchy errs", 1, 6);
        fault("duchy tine five", 1, 11);
        fault("duchy tine 0001", 1, 11);
        fault("duchy tine ;", 1, 11);
        fault("duchy tine 5 errs 5 lock 5 moth", 1, 31);
        fault("duchy tine 5 errs 5 moth", 1, 20);
        fault(HEAD + " 0", 1, HEAD.length() + 1);
        fault(HEAD + ";", 1, HEAD.length() + 1);
        fault(HEAD + ";;", 1, HEAD.length() + 1);
        fault(HEAD + " man", 1, HEAD.length() + 1);
        fault(HEAD + ";man common", 1, HEAD.length() + 11);
        last(HEAD, "man abcdefghi", 1);
        last(HEAD, "man 7", 1);
        for (String word : new String[] {"duchy", "man", "owes", "rumour", "door", "invited", "read"}) {
            last(HEAD, "man " + word, 1);
            last(TWO, "door " + word, 1);
            last(TWO, "owes " + word, 1);
            last(TWO, "owes x " + word, 1);
            last(TWO, "invited " + word, 1);
            last(TWO, "invited x " + word, 1);
            last(TWO, "read " + word, 1);
        }
        last(HEAD, "man x baron", 1);
        last(HEAD, "man x ladyy", 1);
        last(HEAD, "man x lad", 1);
        last(HEAD, "man x duke strong", 1);
        last(HEAD, "man x duke coins x", 1);
        last(HEAD, "man x duke coins 1 coins", 1);
        last(TWO, "owes x y spring", 1);
        last(TWO, "owes x y 5 5", 1);
        last(TWO, "owes x y 5 spring x", 1);
        last(TWO, "door e 5", 1);
        last(TWO, "invited x d 5", 1);
        last(TWO, "read x y", 1);
        last(TWO, "debt", 1);
        last(TWO, "owes x y 5 spring 1234", 1);
        fault(TWO + ";read x", 1, TWO.length() + 7);
        fault(TWO + ";read x  ", 1, TWO.length() + 9);
        fault(TWO + ";read x 5.", 1, TWO.length() + 9);
    }

    private static void names() {
        last(TWO, "owes z", 2);
        last(TWO, "owes x z", 2);
        last(TWO, "owes d", 2);
        last(TWO, "rumour x d", 2);
        last(TWO, "invited d", 2);
        last(TWO, "invited z", 2);
        last(TWO, "invited x y", 2);
        last(TWO, "invited x z", 2);
        last(TWO, "invited x x", 2);
        last(TWO, "read d", 2);
        last(TWO, "read z", 2);
        last(TWO, "read xx", 2);
        last(HEAD, "owes x", 2);
    }

    private static void toldAgain() {
        last(TWO, "man x", 3);
        last(TWO, "man d", 3);
        last(TWO, "door d", 3);
        last(TWO, "door y", 3);
        last(TWO, "owes x x", 3);
        last(TWO, "rumour y y", 3);
        last(TWO + ";invited x d", "invited x", 3);
        last(TWO, "duchy", 3);
        fault(HEAD + ";duchy x", 3, HEAD.length() + 1);
    }

    private static void bounds() {
        fault("duchy tine 0", 4, 11);
        fault("duchy tine 21 x", 4, 11);
        fault("duchy tine 1 errs 101", 4, 18);
        fault("duchy tine 1 errs 100 lock 101", 4, 27);
        fault("duchy tine 1 errs 0 lock 0 moth 101", 4, 32);
        last(HEAD, "man x duke coins 100", 4);
        last(HEAD, "man x duke coins 99 strong 10", 4);
        last(TWO, "owes x y 0", 4);
        last(TWO, "owes x y 100", 4);
        last(TWO, "owes x y 99 spring 10", 4);
        last(TWO, "rumour x y 000", 4);
        last(TWO, "rumour x y 100", 4);
        last(TWO, "rumour x y 1 spring 10", 4);
        last(TWO, "door e wide 41", 4);
        last(TWO, "read x 41", 4);
    }

    private static void many() {
        String men = TWO + ";man p duke coins 0 strong 0;man q duke coins 0 strong 0;man r duke coins 0 strong 0";
        last(men, "man", 5);
        fault(men + ";man s", 5, men.length() + 1);
        last(TWO + ";owes x y 1 spring 0".repeat(7), "owes", 5);
        last(TWO + ";rumour x y 1 spring 0".repeat(4), "rumour", 5);
        last(TWO + ";door e wide 0;door f wide 0;door g wide 0", "door", 5);
        last(TWO + ";read x 0".repeat(4), "read", 5);
        last(TWO + ";invited x d;invited y d", "invited x", 3);
    }

    private static void lacks() {
        fault("man x", 6, 0);
        fault("  read", 6, 2);
        fault("owes", 6, 0);
        fault("rumour", 6, 0);
        fault("door", 6, 0);
        fault("invited", 6, 0);
        fault(HEAD, 6, HEAD.length());
        fault(HEAD + "  ", 6, HEAD.length() + 2);
        fault(HEAD + ";door d wide 3", 6, HEAD.length() + 14);
    }

    private static void goodTexts() {
        AntlerYear x = Check.told("  duchy tine020errs100lock 100 moth 007 ;man abcdefgh freak coins 99strong9; "
            + "man coins common coins 0 strong 0;door wide wide 40;invited coins wide;read coins 40;"
            + "owes coins abcdefgh 99 spring 9 ;rumour abcdefgh coins 1 spring 9 ");
        int[] sizes = {20, 100, 100, 7, 2, 1, 1, 1, 1, 1, 0, 0, 0, 0, -1};
        for (int what = 0; what < sizes.length; what++) {
            Check.due("size(" + what + ")", x.size(what), sizes[what]);
        }
        Check.due("size(-1)", x.size(-1), -1);
        Check.due("fault() without one", x.fault(), 0);
        Check.due("where() without one", x.where(), -1);
        Check.due("trouble() without one", x.trouble(), 0);
        AntlerYear one = new AntlerYear();
        Check.due("one man", Check.tell(one, HEAD + ";man x common coins 0 strong 0"), 1);
        Check.due("full", Check.tell(one, TWO + ";man p duke coins 0 strong 0;man q duke coins 0 strong 0;"
            + "man r duke coins 0 strong 0" + ";owes x y 1 spring 0".repeat(7) + ";rumour x y 1 spring 0".repeat(4)
            + ";door e wide 0;door f wide 0;door g wide 0" + ";read x 0".repeat(4)), 5);
        Check.due("debts in full", one.size(5), 7);
        Check.due("rumours in full", one.size(6), 4);
        Check.due("doors in full", one.size(7), 4);
        Check.due("readings in full", one.size(9), 4);
        Check.due("none invited", one.size(8), 0);
        cutShort();
    }

    private static void cutShort() {
        String text = HEAD + ";man x common coins 12 strong 9";
        AntlerYear x = new AntlerYear();
        byte[] bytes = (text + "9".repeat(60)).getBytes(java.nio.charset.StandardCharsets.ISO_8859_1);
        for (int at = 0; at + 20 <= bytes.length; at += 20) {
            x.feed(Check.four(bytes, at), Check.four(bytes, at + 4), Check.four(bytes, at + 8),
                Check.four(bytes, at + 12), Check.four(bytes, at + 16));
        }
        Check.due("the first n bytes alone", x.duchy(text.length()), 1);
        Check.due("strong by the first n bytes", x.man(0, 2), 9);
        Check.due("the tape is empty then", x.size(13), 0);
    }

    private static void faultLeavesDuchy() {
        AntlerYear x = Check.told(Check.BASE);
        x.spring();
        x.image();
        Check.due(x, "a faulty text", Check.tell(x, HEAD + ";man z duke coins 7 strong 7;man z"), -1, 4);
        Check.due("men stay", x.size(4), 4);
        Check.due("tine stays", x.size(0), 5);
        Check.due("the spring stays", x.size(10), 1);
        Check.due("acts stay", x.size(11), 1);
        Check.due("images stay", x.size(12), 1);
        Check.due("kind stays", x.man(0, 0), 0);
        Check.due("coins stay", x.man(0, 1), 9);
        Check.due("fault stays behind other calls", x.fault(), 3);
    }

    private static void newDuchyForgets() {
        AntlerYear x = Check.told(Check.BASE);
        x.spring();
        x.image();
        Check.due("another duchy", Check.tell(x, TWO), 2);
        Check.due("spring 0", x.size(10), 0);
        Check.due("no acts", x.size(11), 0);
        Check.due("no images", x.size(12), 0);
        Check.due("no debts", x.size(5), 0);
        Check.due(x, "undo()", x.undo() ? 1 : 0, 0, 6);
        Check.due(x, "back(0)", x.back(0) ? 1 : 0, 0, 1);
        Check.due("fault() of the latest", x.fault(), 0);
    }
}
