/** The edges of promises 1 to 5: a new object, THE TAPE, which bytes are read, and what is told of a fault. */
final class TapeEdges {
    private static final String BLANKS = "538976288, 538976288, 538976288, 538976288, 538976288";

    /** Every call that may be refused, with what it answers without a DUCHY, and its TROUBLE then. */
    static final String[][] REFUSED_WITHOUT = {
        {"duchy(1)", "-1", "2"}, {"man(0, 0)", "-1", "1"}, {"debt(0, 0)", "-1", "1"}, {"door(0, 0)", "-1", "1"},
        {"heads()", "-1", "1"}, {"greatest()", "-1", "1"}, {"bald()", "-1", "1"}, {"headIn(0, 0)", "-1", "1"},
        {"when(0, 0)", "-1", "1"}, {"worstSpring()", "-1", "1"}, {"shutIn(0, 0)", "-1", "1"},
        {"payFor(0, 0)", "-1", "1"}, {"payAll()", "-1", "1"}, {"passers()", "-1", "1"}, {"shamed()", "-1", "1"},
        {"cheapest(0)", "-1", "1"}, {"widthFor(0)", "-1", "1"}, {"guests()", "-1", "1"}, {"doorOf(0)", "-1", "1"},
        {"ring(0)", "-1", "1"}, {"ringAt(0, 0)", "-1", "1"}, {"ringSum(0)", "-1", "1"}, {"bestRing()", "-1", "1"},
        {"reach(0)", "-1", "1"}, {"fits()", "-1", "1"}, {"fitAt(0)", "-1", "1"}, {"likely(0, false)", "-1", "1"},
        {"likely(0, true)", "-1", "1"}, {"headIs(0, 0, false)", "-1", "1"}, {"headIs(0, 0, true)", "-1", "1"},
        {"likeliest()", "-1", "1"}, {"look()", "-1", "1"}, {"lookLeaves()", "-1", "1"}, {"judge()", "-1", "1"},
        {"duel(0, 1, 0, true, true, true)", "-100", "1"}, {"rests(0, 1, 0)", "-1", "1"}, {"rest(0, 1, 0)", "-1", "1"},
        {"locked(0, false)", "-1", "1"}, {"locked(0, true)", "-1", "1"}, {"weeks(0, false)", "-1", "1"},
        {"weeks(0, true)", "-1", "1"}, {"moths(0, 0, 0)", "-1", "1"}, {"eaten(0, 0)", "-1", "1"},
        {"pay(0, 1)", "-1", "1"}, {"letOff(0)", "-1", "1"}, {"shed(0)", "-1", "1"}, {"spring()", "-1", "1"},
        {"undo()", "0", "6"}, {"image()", "-1", "1"}, {"back(0)", "0", "1"}};

    private TapeEdges() {
    }

    static void run() {
        newObject();
        bytesFed();
        fullTape();
        bytesRead();
        duchyFromNow();
        refusedNumbers();
        faultLeavesDuchy();
        latestFault();
        where();
        lastPromisedCall();
    }

    private static void newObject() {
        Doc.says("Promise 1", "No DUCHY.");
        new Run().asks("trouble()", 0).asks("fault()", 0).asks("where()", -1);
        for (String[] row : REFUSED_WITHOUT) {
            new Run().refuses(row[0], Long.parseLong(row[1]), Integer.parseInt(row[2]));
        }
        new Run().leavesTrouble("led(0)", Run.THREW);
        for (int what = 0; what <= 13; what++) {
            new Run().leavesTrouble("size(" + what + ")", 0);
        }
    }

    private static void bytesFed() {
        Doc.says("Promise 2", "Twenty bytes come behind THE TAPE, of each number the highest first: how many it has");
        for (int i = 0; i < 20; i++) {
            String text = " ".repeat(i) + "!" + " ".repeat(19 - i);
            new Run().feed(text).asks("duchy(20)", -1).asks("fault()", 1).asks("where()", i);
            new Run().asks("feed(" + BLANKS + ")", 20).feed(text).asks("size(13)", 40).asks("duchy(40)", -1)
                .asks("where()", 20 + i);
        }
        new Run().asks("feed(0, 0, 0, 0, 0)", 20).asks("feed(-1, -1, -1, -1, -1)", 40)
            .asks("feed(2147483647, -2147483648, 0, 0, 0)", 60).asks("undo()", 0).asks("feed(0, 0, 0, 0, 0)", 80)
            .asks("trouble()", 6);
    }

    private static void fullTape() {
        Doc.says("Terms I", "THE TAPE has 900 bytes");
        String text = Texts.PLAIN + Texts.commons(1);
        String full = " ".repeat(900 - text.length()) + text;
        new Run().feed(full).asks("size(13)", 900).asks("duchy(900)", 1);
        new Run().feed(full).refuses("duchy(901)", -1, 2).gives("duchy(900)", 1);
        Doc.says("Promise 2", "NONE, and none comes, if there would be more than 900.");
        Run run = new Run();
        for (int n = 1; n <= 45; n++) {
            run.asks("feed(" + BLANKS + ")", 20 * n);
        }
        run.leavesTrouble("feed(" + BLANKS + ")", -1).asks("feed(0, 0, 0, 0, 0)", -1).asks("size(13)", 900);
        run.asks("duchy(900)", -1).asks("fault()", 1).asks("where()", 900).asks("size(13)", 0);
        run.asks("feed(" + BLANKS + ")", 20);
        new Run().feed(full).asks("feed(0, 0, 0, 0, 0)", -1).gives("duchy(900)", 1);
    }

    private static void bytesRead() {
        Doc.says("Promise 3", "The first n bytes of THE TAPE");
        String text = Texts.PLAIN + ";man a common coins 12 strong 9";
        for (int more = 0; more <= 20; more++) {
            new Run().feed(text + "x".repeat(more)).gives("duchy(" + text.length() + ")", 1).asks("man(0, 2)", 9);
        }
        int inCoins = text.indexOf("12") + 1;
        new Run().feed(text).asks("duchy(" + inCoins + ")", -1).asks("fault()", 1).asks("where()", inCoins);
        String two = text + Texts.commons(2).substring(Texts.commons(1).length());
        new Run().feed(two).asks("duchy(" + (two.length() - 1) + ")", -1).asks("fault()", 1);
        new Run().feed(two).asks("duchy(" + text.length() + ")", 1).asks("size(4)", 1);
        new Run().asks("duchy(0)", -1).asks("trouble()", 4).asks("fault()", 1).asks("where()", 0);
        for (String fed : new String[] {text, " " + text, "   "}) {
            new Run().feed(fed).asks("duchy(0)", -1).asks("trouble()", 4).asks("where()", 0).asks("size(13)", 0);
        }
    }

    private static void duchyFromNow() {
        Doc.says("Promise 3", "(it is empty then)");
        Run.told(Texts.PLAIN + Texts.commons(1)).asks("size(13)", 0).refuses("duchy(1)", -1, 2);
        new Run().feed(Texts.PLAIN).asks("duchy(1)", -1).asks("size(13)", 0).refuses("duchy(1)", -1, 2);
        Doc.says("Promise 3", "are the DUCHY from now on (spring 0; nothing to undo, no IMAGES): how many men.");
        for (int men = 1; men <= 5; men++) {
            String text = Texts.PLAIN + Texts.commons(men);
            new Run().feed(text).gives("duchy(" + text.length() + ")", men).asks("size(4)", men);
            Run old = Run.told(Check.BASE);
            old.does("spring()");
            old.does("image()");
            old.does("spring()");
            old.asks("size(10)", 2).asks("size(11)", 2).asks("size(12)", 1);
            Check.due("the next duchy", old.tell(text), men);
            Check.same("all of the next duchy", old.all(true), Run.told(text).all(true));
            Run next = Run.told(Check.BASE);
            next.does("image()");
            next.does("spring()");
            next.tell(text);
            next.refuses("undo()", 0, 6).refuses("back(0)", 0, 1).gives("image()", 0);
        }
        nothingOfOldDuchies();
    }

    /** Told behind two great ones, or behind a faulty one, a small duchy answers as on a new object. */
    private static void nothingOfOldDuchies() {
        String great = Texts.duchy(2, 50, 50, 50) + Texts.commons(5) + Texts.owes("a b 4 0", "b a 3 0", "b c 1 0")
            + Texts.rumours("a b 1 0", "b a 1 0") + Texts.doors(9, 9, 9, 0) + Texts.invited("a p", "b q", "c r")
            + Texts.reads("a 2", "b 3");
        for (int men = 1; men <= 5; men++) {
            String small = Texts.PLAIN + Texts.commons(men) + (men == 2 ? Texts.doors(0) : "");
            for (String second : new String[] {great, great + ";read e 41", great + ";man"}) {
                Run old = Run.told(great);
                old.does("guests()");
                old.does("likeliest()");
                old.does("ring(0)");
                old.does("eaten(0, 3)");
                old.tell(second);
                old.does("guests()");
                old.does("look()");
                old.tell(small);
                Run fresh = Run.told(small);
                for (String[] row : REFUSED_WITHOUT) {
                    Check.due(row[0] + " of a small duchy", old.does(row[0]), fresh.does(row[0]));
                }
                Check.same("all of a small duchy", old.all(true), fresh.all(true));
            }
        }
    }

    private static void refusedNumbers() {
        Doc.says("Promise 3", "NONE: 2 (THE TAPE stays)");
        String text = Texts.PLAIN + Texts.commons(1);
        int fed = (text.length() + 19) / 20 * 20;
        for (int n : new int[] {-1, Integer.MIN_VALUE, fed + 1, 900, 901, Integer.MAX_VALUE}) {
            new Run().feed(text).refuses("duchy(" + n + ")", -1, 2).asks("size(13)", fed).asks("where()", -1)
                .gives("duchy(" + fed + ")", 1);
        }
        new Run().refuses("duchy(1)", -1, 2).refuses("duchy(-1)", -1, 2);
    }

    private static void faultLeavesDuchy() {
        Doc.says("Promise 3", "4 (the DUCHY stays)");
        String[] faulty = {"", "x", Texts.duchy(7, 7, 7, 7) + ";man", Texts.duchy(7, 7, 7, 7) + Texts.commons(5)
            + Texts.owes("a b 1 0") + Texts.doors(1) + Texts.invited("a p") + Texts.reads("a 1", "a 41")};
        for (String text : faulty) {
            Run run = Run.told(Check.BASE);
            run.does("pay(0, 2)");
            run.does("image()");
            run.does("spring()");
            Run same = run.again();
            Check.due("a faulty text", run.tell(text), -1);
            run.asks("trouble()", 4).asks("size(13)", 0);
            Check.same("all behind the fault", run.all(false), same.all(false));
        }
    }

    private static void latestFault() {
        Doc.says("Promise 4", "The FAULT of the latest duchy() not refused by 2; 0 without one.");
        String[] byFault = {Texts.PLAIN + Texts.commons(1), "", Texts.PLAIN + ";owes a", Texts.PLAIN + ";duchy",
            "duchy tine 0", Texts.PLAIN + Texts.commons(5) + ";man", Texts.PLAIN};
        Run run = new Run().asks("fault()", 0);
        for (int next : new int[] {1, 2, 3, 4, 5, 6, 0, 6, 1}) {
            run.tell(byFault[next]);
            run.asks("fault()", next).asks("duchy(-1)", -1).asks("fault()", next);
            run.does("spring()");
            run.does("undo()");
            run.asks("fault()", next);
        }
        run.leavesTrouble("fault()", 1);
    }

    private static void where() {
        Doc.says("Promise 5", "Its place, if the latest call that may be refused was by 4");
        Run run = new Run();
        run.tell("   !");
        run.asks("where()", 3).asks("where()", 3).asks("fault()", 1).asks("trouble()", 4).asks("size(4)", 0)
            .asks("size(99)", -1).asks("feed(0, 0, 0, 0, 0)", 20).asks("led(0)", Run.THREW).asks("where()", 3);
        run.does("duchy(0)");
        run.asks("where()", 0);
        Doc.says("Promise 5", "NONE else.");
        new Run().asks("where()", -1).leavesTrouble("where()", -1);
        Run.told(Check.BASE).asks("where()", -1);
        for (String[] row : REFUSED_WITHOUT) {
            Run behind = new Run();
            behind.tell("   !");
            behind.asks("where()", 3);
            behind.does(row[0]);
            behind.asks("where()", -1);
            behind = Run.told(Check.BASE);
            behind.tell("   !");
            behind.asks("where()", 3);
            behind.does(row[0]);
            behind.asks("where()", -1);
        }
    }

    private static void lastPromisedCall() {
        Doc.says("An object", "An object is used for at most 512 calls after it has been made; "
            + "what later calls answer is free.");
        Run run = Run.told(Check.BASE);
        for (int n = 1; n <= 512 - 26 - 1; n++) {
            run.asks("spring()", 11);
        }
        run.asks("size(10)", 485);
    }
}
