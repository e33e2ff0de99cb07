/** The edges of promises 44 to 53: acts, undoing, images, and what is told. */
final class ActEdges {
    /** a has 9 coins and owes b 12 and, in spring 1, 6; b owes a 99 and has 99. */
    private static final String PAIR = Texts.duchy(5, 0, 0, 0) + Texts.men("common 9 1", "duke 99 9", "lady 0 0")
        + Texts.owes("a b 12 0", "a b 6 1", "b a 99 0");

    private ActEdges() {
    }

    static void run() {
        acts();
        pay();
        letOff();
        shed();
        spring();
        undo();
        undoesGoRound();
        images();
        back();
        led();
        size();
        trouble();
    }

    private static void acts() {
        Doc.says("Terms III", "ACTS: PAY of a debt (who is owed has the coins then), LET OFF by a RING, "
            + "SHED (all DUE debts of a man are forgiven), SPRING (one more).");
        Run run = Run.told(PAIR).gives("pay(0, 4)", 8).asks("size(11)", 1).asks("man(0, 1)", 5).asks("man(1, 1)", 103)
            .asks("man(2, 1)", 0).asks("debt(0, 2)", 8).asks("debt(1, 2)", 6).asks("debt(2, 2)", 99);
        run.gives("letOff(0)", 8).asks("size(11)", 2).asks("debt(0, 2)", 0).asks("debt(2, 2)", 91).asks("man(0, 1)", 5)
            .asks("man(1, 1)", 103);
        run.gives("spring()", 2 + 38).asks("size(11)", 3).asks("size(10)", 1);
        run.gives("shed(0)", 6).asks("size(11)", 4).asks("debt(1, 2)", 0).asks("debt(2, 2)", 91).asks("man(0, 1)", 5);
    }

    private static void pay() {
        Doc.says("Promise 44", "PAY so many coins (1 .. 99) of a debt: what is LEFT.");
        Run.told(PAIR).gives("pay(0, 1)", 11).asks("man(0, 1)", 8).asks("man(1, 1)", 100);
        Run.told(PAIR).gives("pay(2, 99)", 0).asks("man(1, 1)", 0).asks("man(0, 1)", 108);
        Run.told(PAIR).gives("pay(2, 98)", 1).gives("pay(2, 1)", 0);
        Run.told(PAIR).gives("pay(0, 9)", 3).asks("man(0, 1)", 0);
        Doc.says("Promise 44", "NONE: 1; 2;");
        Run.told(PAIR).refusesBeyond("pay(#, 1)", 0, 2, -1, 1).refusesBeyond("pay(2, #)", 1, 99, -1, 2)
            .refuses("pay(3, 0)", -1, 1).refuses("pay(-1, 100)", -1, 1);
        // A number is looked at ahead of whether it is so.
        Run.told(PAIR).refuses("pay(1, 0)", -1, 2).refuses("pay(1, 100)", -1, 2).refuses("pay(0, 0)", -1, 2);
        Run.told(Texts.PLAIN + Texts.commons(2)).refuses("pay(0, 1)", -1, 1);
        Doc.says("Promise 44", "5 (it isn't DUE, or less is LEFT);");
        Run run = Run.told(PAIR).refuses("pay(1, 1)", -1, 5).refuses("pay(0, 13)", -1, 5);
        run.does("pay(2, 3)");
        run.gives("pay(0, 12)", 0).refuses("pay(0, 1)", -1, 5);
        run.does("spring()");
        run.does("pay(2, 90)");
        run.refuses("pay(1, 7)", -1, 5).gives("pay(1, 6)", 0).refuses("pay(1, 1)", -1, 5);
        Doc.says("Promise 44", "6 (he has fewer coins).");
        Run.told(PAIR).refuses("pay(0, 10)", -1, 6).refuses("pay(0, 12)", -1, 6).gives("pay(0, 9)", 3)
            .refuses("pay(0, 1)", -1, 6).refuses("pay(0, 4)", -1, 5);
    }

    private static void letOff() {
        Doc.says("Promise 45", "LET OFF by the RING through a man: how much.");
        Run.told(PAIR).gives("letOff(0)", 12).asks("debt(0, 2)", 0).asks("debt(2, 2)", 87).asks("debt(1, 2)", 6);
        Run.told(PAIR).gives("letOff(1)", 12).asks("debt(2, 2)", 87);
        Run.told(Texts.PLAIN + Texts.commons(2) + Texts.owes("a b 1 0", "b a 1 0")).gives("letOff(1)", 1)
            .asks("heads()", 0).refuses("letOff(1)", -1, 6);
        Doc.says("Promise 45", "NONE: 1; 6 (there is none).");
        Run.told(PAIR).refusesBeyond("letOff(#)", 0, 2, -1, 1).refuses("letOff(2)", -1, 6);
        Run run = Run.told(PAIR);
        run.does("letOff(0)");
        run.refuses("letOff(0)", -1, 6).refuses("letOff(1)", -1, 6);
        run.does("spring()");
        run.gives("letOff(0)", 6);
    }

    private static void shed() {
        Doc.says("Promise 46", "SHED: coins forgiven.");
        Run run = Run.told(PAIR).gives("shed(0)", 12).asks("debt(0, 2)", 0).asks("debt(1, 2)", 6).asks("debt(2, 2)", 99)
            .asks("man(0, 1)", 9).asks("man(1, 1)", 99);
        run.does("spring()");
        run.gives("shed(0)", 6);
        run = Run.told(PAIR);
        run.does("spring()");
        run.gives("shed(0)", 18).gives("shed(1)", 99).asks("heads()", 0);
        Run.told(Texts.PLAIN + Texts.men("lady 0 0", "duke 0 0") + Texts.owes("a b 1 0")).gives("shed(0)", 1);
        Doc.says("Promise 46", "NONE: 1; 5 (nothing is DUE).");
        Run.told(PAIR).refusesBeyond("shed(#)", 0, 2, -1, 1).refuses("shed(2)", -1, 5).gives("shed(0)", 12)
            .refuses("shed(0)", -1, 5);
        Run.told(Texts.PLAIN + Texts.commons(2) + Texts.owes("a b 1 1")).refuses("shed(0)", -1, 5)
            .refuses("shed(1)", -1, 5);
    }

    private static void spring() {
        Doc.says("Promise 47", "SPRING: HEADS together then.");
        Run run = Run.told(Texts.PLAIN + Texts.commons(2) + Texts.owes("a b 1 1", "b a 2 2", "b a 4 9"));
        int[] heads = {0, 1, 3, 3, 3, 3, 3, 3, 3, 7, 7};
        for (int now = 1; now < heads.length; now++) {
            run.gives("spring()", heads[now]).asks("size(10)", now).asks("heads()", heads[now]);
        }
        Doc.says("Promise 47", "NONE: 1 (no DUCHY);");
        new Run().refuses("spring()", -1, 1);
        Doc.says("Promise 47", "3 (999 went by).");
        // No 512 calls go as far; what lies beyond them is free, but the sentence stands all the same.
        AntlerYear year = Check.told(PAIR);
        for (int now = 1; now <= 999; now++) {
            Check.due(year, "spring " + now, year.spring(), 5 + 40, 0);
        }
        for (int n = 0; n < 3; n++) {
            Check.due(year, "spring 1000", year.spring(), -1, 3);
            Check.due("the spring stays", year.size(10), 999);
            Check.due("acts stay", year.size(11), 16);
        }
        Check.due(year, "a man's HEAD in twenty springs", year.headIn(0, 20), 5, 0);
        Check.due("moths in twenty springs", year.moths(0, 0, 20), 5);
        Check.due("undone", year.undo(), true);
        Check.due(year, "spring 999 again", year.spring(), 45, 0);
        Check.due(year, "spring 1000 again", year.spring(), -1, 3);
    }

    private static void undo() {
        Doc.says("Promise 48", "UNDO: true; false: 6.");
        new Run().refuses("undo()", 0, 6);
        Run.told(PAIR).refuses("undo()", 0, 6);
        for (String act : new String[] {"pay(0, 4)", "letOff(1)", "shed(0)", "shed(1)", "spring()"}) {
            Run run = Run.told(PAIR);
            run.does(act);
            run.asks("size(11)", 1).gives("undo()", 1).asks("size(11)", 0);
            Check.same("all as ahead of " + act, run.again().all(true), Run.told(PAIR).all(true));
            run.refuses("undo()", 0, 6);
        }
        Doc.says("Terms III", "UNDO: the latest (16 are kept).");
        Run run = Run.told(PAIR);
        for (String act : new String[] {"spring()", "pay(1, 2)", "letOff(0)", "shed(1)"}) {
            run.does(act);
        }
        run.asks("man(1, 5)", 0).gives("undo()", 1).asks("man(1, 5)", 83).gives("undo()", 1).asks("man(1, 5)", 99)
            .asks("debt(1, 2)", 4).gives("undo()", 1).asks("debt(1, 2)", 6).asks("man(0, 1)", 9).asks("size(10)", 1)
            .gives("undo()", 1).asks("size(10)", 0).refuses("undo()", 0, 6);
        for (int acts : new int[] {15, 16, 17, 33}) {
            run = Run.told(PAIR);
            for (int n = 1; n <= acts; n++) {
                run.does("spring()");
                run.asks("size(11)", Math.min(n, 16));
            }
            for (int n = 1; n <= Math.min(acts, 16); n++) {
                run.gives("undo()", 1).asks("size(10)", acts - n).asks("size(11)", Math.min(acts, 16) - n);
            }
            run.refuses("undo()", 0, 6).asks("size(10)", Math.max(0, acts - 16));
        }
    }

    /** Undoing and acting in turn, so that what is kept passes its end and goes on from the other, both ways. */
    private static void undoesGoRound() {
        Run run = Run.told(Texts.PLAIN + Texts.men("common 99 0", "lady 0 0") + Texts.owes("a b 99 0"));
        int left = 99;
        for (int round = 0; round < 5; round++) {
            for (int n = 0; n < 12; n++) {
                left--;
                run.asks("pay(0, 1)", left);
            }
            for (int n = 0; n < 9; n++) {
                left++;
                run.asks("undo()", 1).asks("debt(0, 2)", left).asks("man(0, 1)", left);
            }
        }
        // 12 acts and 9 undone, five times: of 3, 6, 7, 7, 7 kept behind each round.
        run.asks("size(11)", 7).asks("debt(0, 2)", 84);
        for (int n = 0; n < 7; n++) {
            run.asks("undo()", 1);
        }
        run.asks("debt(0, 2)", 91).asks("undo()", 0).asks("debt(0, 2)", 91);
    }

    private static void images() {
        Doc.says("Promise 49", "An IMAGE: its number.");
        Run run = Run.told(PAIR).gives("image()", 0).asks("size(12)", 1).gives("image()", 1).asks("size(12)", 2)
            .gives("image()", 2).asks("size(12)", 3).asks("size(11)", 0);
        Doc.says("Promise 49", "NONE: 1 (no DUCHY); 3.");
        run.refuses("image()", -1, 3).refuses("image()", -1, 3).asks("size(12)", 3);
        new Run().refuses("image()", -1, 1);
        Doc.says("Terms III", "IMAGES: up to 3; gone back to one, nothing can be undone.");
        run = Run.told(PAIR);
        for (int n = 0; n < 3; n++) {
            run.gives("image()", n);
            run.does("pay(2, 1)");
        }
        run.refuses("image()", -1, 3).asks("size(11)", 3);
        for (int n : new int[] {2, 0, 1, 1}) {
            run.does("spring()");
            run.gives("back(" + n + ")", 1).asks("debt(2, 2)", 99 - n).asks("man(0, 1)", 9 + n).asks("size(10)", 0)
                .asks("size(11)", 0).asks("undo()", 0).asks("trouble()", 6);
        }
        run.refuses("image()", -1, 3).refuses("undo()", 0, 6);
    }

    private static void back() {
        Doc.says("Promise 50", "All is as by an IMAGE (all IMAGES stay): true;");
        Run run = Run.told(PAIR);
        run.does("pay(0, 5)");
        run.does("image()");
        Run same = run.again();
        for (String act : new String[] {"spring()", "pay(2, 50)", "letOff(0)", "shed(0)", "image()"}) {
            run.does(act);
        }
        run.gives("back(0)", 1).asks("size(12)", 2).asks("size(11)", 0).asks("size(10)", 0);
        String[] asks = {"man(0, 1)", "man(1, 1)", "debt(0, 2)", "debt(1, 2)", "debt(2, 2)", "heads()"};
        for (String ask : asks) {
            run.asks(ask, same.does(ask));
        }
        run.gives("back(1)", 1).asks("size(10)", 1).asks("debt(0, 2)", 0).asks("size(12)", 2);
        // An image is as it was, whatever was done behind it and undone; and acts behind it can be undone.
        run.gives("back(0)", 1).gives("spring()", 2 + 2 + 40).gives("undo()", 1).refuses("undo()", 0, 6);
        run.does("shed(1)");
        run.gives("back(0)", 1).asks("debt(2, 2)", 99).gives("image()", 2).refuses("image()", -1, 3);
        Doc.says("Promise 50", "false: 1.");
        new Run().refusesBeyond("back(#)", 0, -1, 0, 1).refuses("back(0)", 0, 1);
        run = Run.told(PAIR).refuses("back(0)", 0, 1);
        run.does("spring()");
        run.refuses("back(0)", 0, 1).gives("image()", 0).refusesBeyond("back(#)", 0, 0, 0, 1).gives("image()", 1)
            .refuses("back(2)", 0, 1).gives("image()", 2).refusesBeyond("back(#)", 0, 2, 0, 1).asks("size(11)", 1);
    }

    private static void led() {
        Doc.says("Promise 51", "The i-th man, by numbers, whose HEAD is above his strength.");
        String five = Texts.PLAIN + Texts.men("common 0 3", "duke 0 9", "lady 0 0", "freak 0 0", "common 0 9");
        String rows = Texts.owes("a b 4 0", "b a 5 0", "c a 99 0", "d a 1 0", "e a 10 0");
        Run run = Run.told(five + rows).leavesTrouble("led(0)", 0).asks("led(1)", 1).asks("led(2)", 3)
            .asks("led(3)", 4);
        Run.told(five + rows.replace("a b 4", "a b 3")).asks("led(0)", 1).asks("led(2)", 4);
        Run.told(five + rows.replace("b a 5", "b a 4")).asks("led(0)", 0).asks("led(1)", 3);
        Run.told(five + rows.replace("e a 10", "e a 9")).asks("led(2)", 3).asks("led(3)", Run.THREW);
        Doc.says("Promise 51", "NoSuchElementException if there is none such.");
        for (int i : new int[] {4, -1, 5, Integer.MIN_VALUE, Integer.MAX_VALUE}) {
            run.leavesTrouble("led(" + i + ")", Run.THREW);
        }
        Run.told(five).leavesTrouble("led(0)", Run.THREW);
        new Run().leavesTrouble("led(0)", Run.THREW).leavesTrouble("led(-1)", Run.THREW);
        run = Run.told(PAIR);
        run.does("spring()");
        run.asks("led(0)", 0).asks("led(2)", Run.THREW).changesNothing("led(0)").changesNothing("led(2)");
    }

    private static void size() {
        Doc.says("Promise 52", "0 tine, 1 errs, 2 lock, 3 moth, 4 men, 5 debts, 6 rumours, 7 doors, 8 invited, "
            + "9 readings, 10 the spring NOW, 11 ACTS that can be undone, 12 IMAGES, 13 bytes of THE TAPE.");
        Run run = Run.told(Check.BASE.replace("errs 20 lock 50 moth 50", "errs 21 lock 51 moth 52"));
        run.does("spring()");
        run.does("spring()");
        run.does("image()");
        run.does("undo()");
        run.does("feed(0, 0, 0, 0, 0)");
        int[] sizes = {5, 21, 51, 52, 4, 6, 2, 3, 3, 2, 1, 1, 1, 20};
        for (int what = 0; what < sizes.length; what++) {
            run.leavesTrouble("size(" + what + ")", sizes[what]);
        }
        int[] full = {20, 100, 100, 100, 5, 7, 4, 4, 5, 4, 0, 0, 0, 0};
        for (int what = 0; what < full.length; what++) {
            Run.told(TextEdges.FULL).asks("size(" + what + ")", full[what]);
        }
        Doc.says("Promise 52", "NONE for others;");
        for (int what : new int[] {-1, 14, Integer.MIN_VALUE, Integer.MAX_VALUE}) {
            Run.told(Check.BASE).leavesTrouble("size(" + what + ")", -1);
            new Run().leavesTrouble("size(" + what + ")", -1);
        }
        Doc.says("Promise 52", "0 for what there isn't.");
        Run one = Run.told(Texts.PLAIN + Texts.commons(1));
        for (int what = 0; what <= 13; what++) {
            new Run().asks("size(" + what + ")", 0);
            one.asks("size(" + what + ")", what == 0 || what == 4 ? 1 : 0);
        }
    }

    private static void trouble() {
        Doc.says("Promise 53", "TROUBLE.");
        new Run().asks("trouble()", 0).asks("heads()", -1).asks("trouble()", 1).asks("trouble()", 1)
            .changesNothing("trouble()");
        Run.told(PAIR).changesNothing("trouble()");
        Doc.says("Terms IV", "0 it wasn't; 1 there is none such; 2 a number; 3 no room; 4 a FAULT; 5 not so; "
            + "6 there is none.");
        Run run = Run.told(PAIR).asks("trouble()", 0).asks("man(3, 0)", -1).asks("trouble()", 1)
            .asks("headIn(0, 21)", -1).asks("trouble()", 2);
        for (int n = 0; n < 4; n++) {
            run.does("image()");
        }
        run.asks("trouble()", 3).asks("duchy(0)", -1).asks("trouble()", 4).asks("shed(2)", -1).asks("trouble()", 5)
            .asks("undo()", 0).asks("trouble()", 6).asks("heads()", 43).asks("trouble()", 0);
        Doc.says("Terms IV", "TROUBLE of the latest call that may be refused (those of which a number is told here):");
        String[] without = {"feed(0, 0, 0, 0, 0)", "fault()", "where()", "led(0)", "led(9)", "size(0)", "size(14)",
            "trouble()"};
        for (String call : without) {
            run.does("undo()");
            run.does(call);
            run.asks("trouble()", 6);
            run.does("heads()");
            run.does(call);
            run.asks("trouble()", 0);
        }
        Run full = new Run().feed(" ".repeat(900));
        full.does("undo()");
        full.asks("feed(0, 0, 0, 0, 0)", -1).asks("trouble()", 6);
        // An answer of -2 is no refusal.
        Run.told(Texts.PLAIN + Texts.commons(1)).gives("when(0, 1)", -2).gives("cheapest(0)", -2).gives("doorOf(0)", -2)
            .gives("ring(0)", -2).gives("ringSum(0)", -2).gives("bestRing()", -2).gives("judge()", -2);
        Doc.says("Constants", "`NONE = -1`: There is none; refused.");
        Check.due("NONE", AntlerYear.NONE, -1);
    }
}
