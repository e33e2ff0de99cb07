/** The edges of Terms II and of promises 6 to 15: men, debts and doors now, and springs to come. */
final class NowEdges {
    /** As many men, debts and doors as there may be. */
    private static final String FIVE = Texts.duchy(5, 20, 50, 50)
        + Texts.men("common 9 4", "lady 30 2", "duke 40 6", "freak 3 4", "common 99 9")
        + Texts.owes("a c 12 0", "a b 6 1", "c d 8 0", "d a 11 0", "b c 20 0", "d c 1 2", "a e 5 9")
        + Texts.doors(6, 2, 0, 40) + Texts.invited("a q", "c p", "d r", "e s");
    /** A tine more in each of the springs 0, 1, 2, 3, 7, 8, 9. */
    private static final String RISING = Texts.PLAIN + Texts.commons(2)
        + Texts.owes("a b 1 0", "a b 1 1", "a b 1 2", "a b 1 3", "a b 1 7", "a b 1 8", "a b 1 9");
    private static final int[] SPRINGS = {0, 1, 2, 3, 7, 8, 9};

    private NowEdges() {
    }

    static void run() {
        firstSpring();
        due();
        tines();
        heads();
        passing();
        rumoursAreNoDebts();
        man();
        debt();
        door();
        allHeads();
        greatest();
        bald();
        headIn();
        when();
        worstSpring();
        shutIn();
    }

    private static Run springs(Run run, int count) {
        for (int n = 0; n < count; n++) {
            run.does("spring()");
        }
        return run;
    }

    private static void firstSpring() {
        Doc.says("Terms II", "Springs have numbers, the first one 0.");
        Run run = Run.told(RISING).asks("size(10)", 0).asks("debt(0, 4)", 1).asks("debt(1, 4)", 0);
        springs(run, 1).asks("size(10)", 1).asks("debt(1, 4)", 1).asks("debt(2, 4)", 0);
    }

    private static void due() {
        Doc.says("Terms II", "A debt is DUE if its spring is NOW or was, and something of it is LEFT.");
        for (int spring : new int[] {0, 1, 9}) {
            Run run = Run.told(Texts.PLAIN + Texts.men("common 2 0", "lady 0 0") + Texts.owes("a b 2 " + spring));
            for (int now = 0; now <= 11; now++) {
                run.asks("size(10)", now).asks("debt(0, 4)", now >= spring ? 1 : 0)
                    .asks("man(0, 3)", now >= spring ? 2 : 0);
                run.does("spring()");
            }
            run.asks("pay(0, 1)", 1).asks("debt(0, 4)", 1).asks("pay(0, 1)", 0).asks("debt(0, 4)", 0)
                .asks("man(0, 7)", 0);
        }
    }

    private static void tines() {
        Doc.says("Terms II", "TINES of it then: what is LEFT by coins a tine, upwards; else none.");
        int[][] rows = {{5, 1, 1}, {5, 4, 1}, {5, 5, 1}, {5, 6, 2}, {5, 10, 2}, {5, 11, 3}, {5, 99, 20}, {1, 1, 1},
            {1, 99, 99}, {20, 1, 1}, {20, 20, 1}, {20, 21, 2}, {20, 99, 5}};
        for (int[] row : rows) {
            Run run = Run.told(Texts.duchy(row[0], 0, 0, 0) + Texts.men("common 99 0", "lady 0 0")
                + Texts.owes("a b " + row[1] + " 0", "a b " + row[1] + " 1"));
            run.asks("debt(0, 5)", row[2]).asks("debt(1, 5)", 0).asks("man(0, 4)", row[2]);
            run.asks("pay(0, " + row[1] + ")", 0).asks("debt(0, 5)", 0);
            springs(run, 1).asks("debt(1, 5)", row[2]);
        }
    }

    private static void heads() {
        Doc.says("Terms II", "BURDEN of a man: TINES of all he owes.");
        Run.told(Texts.duchy(5, 0, 0, 0) + Texts.commons(3) + Texts.owes("a b 1 0", "a c 1 0", "b a 9 0", "a b 1 1"))
            .asks("man(0, 4)", 2).asks("man(1, 4)", 2).asks("man(2, 4)", 0);
        Doc.says("Terms II", "HEAD: BURDEN; a duke's is twice as much, a freak's half, upwards; a lady wears none.");
        for (int burden : new int[] {1, 2, 3, 4, 98, 99}) {
            String claim = " " + burden + " 0";
            Run.told(Texts.PLAIN + Texts.men("common 0 0", "lady 0 0", "duke 0 0", "freak 0 0")
                + Texts.owes("a b" + claim, "b a" + claim, "c a" + claim, "d a" + claim))
                .asks("man(0, 3)", burden).asks("man(1, 3)", 0).asks("man(2, 3)", 2 * burden)
                .asks("man(3, 3)", (burden + 1) / 2).asks("man(1, 4)", burden).asks("man(3, 4)", burden);
        }
        Run.told(Texts.PLAIN + Texts.men("common 0 0", "lady 0 0", "duke 0 0", "freak 0 0")).asks("man(0, 3)", 0)
            .asks("man(1, 3)", 0).asks("man(2, 3)", 0).asks("man(3, 3)", 0);
    }

    private static void passing() {
        Doc.says("Terms II", "A man PASSES a door if his HEAD is no more than wide.");
        Run.told(Texts.PLAIN + Texts.commons(2) + Texts.owes("a b 39 0") + Texts.doors(0, 38, 39, 40))
            .asks("door(0, 1)", 2).asks("door(1, 1)", 2).asks("door(2, 1)", 3).asks("door(3, 1)", 3);
        Run.told(Texts.PLAIN + Texts.commons(2) + Texts.owes("a b 41 0", "b a 40 0") + Texts.doors(40))
            .asks("door(0, 1)", 2);
    }

    private static void rumoursAreNoDebts() {
        Doc.says("Terms II", "Rumours are no debts, but where it is said.");
        String text = FIVE.replace(";owes c d 8 spring 0", "");
        Run without = Run.told(text);
        Run with = Run.told(text + Texts.rumours("c d 8 0", "b a 99 0", "e a 99 0", "d e 99 0")).asks("size(6)", 4);
        for (int n = 0; n < 3; n++) {
            for (String[] row : TapeEdges.REFUSED_WITHOUT) {
                boolean told = row[0].startsWith("fit") || row[0].startsWith("like") || row[0].startsWith("look")
                    || row[0].startsWith("headIs") || row[0].startsWith("duchy");
                Check.due(row[0] + " with rumours", told ? 0 : with.does(row[0]), told ? 0 : without.does(row[0]));
            }
        }
        with = Run.told(text + Texts.rumours("c d 8 0", "b a 99 0", "e a 99 0", "d e 99 0"));
        with.asks("size(5)", 6).asks("ring(2)", -2).asks("reach(4)", 0).asks("man(4, 3)", 0).asks("man(3, 6)", 0)
            .refuses("shed(4)", -1, 5).refuses("letOff(0)", -1, 6).refuses("debt(6, 0)", -1, 1);
    }

    private static void rows(Run run, String name, int[][] rows) {
        for (int i = 0; i < rows.length; i++) {
            for (int what = 0; what < rows[i].length; what++) {
                run.asks(name + "(" + i + ", " + what + ")", rows[i][what]);
            }
        }
    }

    private static void man() {
        Doc.says("Promise 6", "Of a man 0 KIND (0 common, 1 lady, 2 duke, 3 freak), 1 coins NOW, 2 how strong, 3 HEAD, "
            + "4 BURDEN, 5 what is LEFT of all DUE that he owes, 6 of all DUE that he is owed, "
            + "7 men he owes (DUE), as bits.");
        Run run = Run.told(FIVE);
        rows(run, "man", new int[][] {{0, 9, 4, 3, 3, 12, 11, 4}, {1, 30, 2, 0, 4, 20, 0, 4},
            {2, 40, 6, 4, 2, 8, 32, 8}, {3, 3, 4, 2, 3, 11, 8, 1}, {0, 99, 9, 0, 0, 0, 0, 0}});
        run.tells("man(0, 0)", 0).tells("man(4, 7)", 0);
        run = springs(Run.told(FIVE), 9);
        run.does("pay(0, 4)");
        rows(run, "man", new int[][] {{0, 5, 4, 5, 5, 19, 11, 22}, {1, 30, 2, 0, 4, 20, 6, 4},
            {2, 44, 6, 4, 2, 8, 29, 8}, {3, 3, 4, 2, 4, 12, 8, 5}, {0, 99, 9, 0, 0, 0, 5, 0}});
        Doc.says("Promise 6", "NONE: 1.");
        Run.told(FIVE).refusesBeyond("man(#, 0)", 0, 4, -1, 1).refusesBeyond("man(4, #)", 0, 7, -1, 1)
            .refuses("man(5, 8)", -1, 1);
        Run.told(Texts.PLAIN + Texts.commons(1)).tells("man(0, 7)", 0).refuses("man(1, 0)", -1, 1);
    }

    private static void debt() {
        Doc.says("Promise 7", "Of a debt 0 who owes, 1 whom, 2 what is LEFT, 3 its spring, 4 1 if it is DUE, 5 TINES.");
        int[][] now = {{0, 2, 12, 0, 1, 3}, {0, 1, 6, 1, 0, 0}, {2, 3, 8, 0, 1, 2}, {3, 0, 11, 0, 1, 3},
            {1, 2, 20, 0, 1, 4}, {3, 2, 1, 2, 0, 0}, {0, 4, 5, 9, 0, 0}};
        Run run = Run.told(FIVE);
        rows(run, "debt", now);
        run.tells("debt(0, 0)", 0).tells("debt(6, 5)", 0);
        run.does("pay(0, 2)");
        run.asks("debt(0, 2)", 10).asks("debt(0, 5)", 2);
        run.does("shed(0)");
        run.asks("debt(0, 2)", 0).asks("debt(0, 4)", 0).asks("debt(0, 5)", 0).asks("debt(0, 0)", 0)
            .asks("debt(0, 1)", 2).asks("debt(0, 3)", 0).asks("debt(1, 2)", 6).asks("size(5)", 7);
        Doc.says("Promise 7", "NONE: 1.");
        Run.told(FIVE).refusesBeyond("debt(#, 0)", 0, 6, -1, 1).refusesBeyond("debt(6, #)", 0, 5, -1, 1)
            .refuses("debt(7, 6)", -1, 1);
        Run.told(Texts.PLAIN + Texts.commons(2)).refuses("debt(0, 0)", -1, 1);
        Run.told(Texts.PLAIN + Texts.commons(2) + Texts.owes("b a 1 0")).tells("debt(0, 0)", 1)
            .refuses("debt(1, 0)", -1, 1);
    }

    private static void door() {
        Doc.says("Promise 8", "Of a door 0 how wide, 1 men who PASS it, as bits, 2 those invited, as bits.");
        Run run = Run.told(FIVE);
        rows(run, "door", new int[][] {{6, 31, 4}, {2, 26, 1}, {0, 18, 8}, {40, 31, 16}});
        run.tells("door(0, 0)", 6).tells("door(3, 2)", 16);
        run.does("pay(0, 2)");
        run.asks("door(1, 1)", 27);
        Run.told(Texts.PLAIN + Texts.commons(2) + Texts.owes("a b 1 0", "b a 1 0") + Texts.doors(0))
            .tells("door(0, 1)", 0).tells("door(0, 2)", 0);
        Doc.says("Promise 8", "NONE: 1.");
        Run.told(FIVE).refusesBeyond("door(#, 0)", 0, 3, -1, 1).refusesBeyond("door(3, #)", 0, 2, -1, 1)
            .refuses("door(4, 3)", -1, 1);
        Run.told(Texts.PLAIN + Texts.commons(2)).refuses("door(0, 0)", -1, 1);
    }

    private static void allHeads() {
        Doc.says("Promise 9", "HEADS of all together.");
        Run run = Run.told(FIVE).tells("heads()", 9);
        run.does("shed(2)");
        run.tells("heads()", 5);
        Run.told(Texts.PLAIN + Texts.commons(5)).tells("heads()", 0);
        // Seven debts of 99 by a duke, a tine a coin: no HEADS are more.
        Run.told(Texts.PLAIN + Texts.men("duke 0 0", "lady 0 0") + Texts.owes("a b 99 0", "a b 99 0", "a b 99 0",
            "a b 99 0", "a b 99 0", "a b 99 0", "a b 99 0")).tells("heads()", 1386).tells("man(0, 3)", 1386);
        Doc.says("Promise 9", "NONE: 1 (no DUCHY).");
        new Run().refuses("heads()", -1, 1);
    }

    private static void greatest() {
        Doc.says("Promise 10", "The man with the greatest HEAD, the first such.");
        Run.told(FIVE).tells("greatest()", 2);
        Run.told(Texts.PLAIN + Texts.commons(5)).tells("greatest()", 0);
        Run.told(Texts.PLAIN + Texts.commons(1)).tells("greatest()", 0);
        Run.told(Texts.PLAIN + Texts.commons(5) + Texts.owes("b a 3 0", "d a 3 0", "e a 3 0", "a b 2 0"))
            .tells("greatest()", 1);
        Run.told(Texts.PLAIN + Texts.commons(5) + Texts.owes("b a 3 0", "d a 3 0", "e a 4 0")).tells("greatest()", 4);
        Run.told(Texts.PLAIN + Texts.men("lady 0 0", "freak 0 0", "common 0 0")
            + Texts.owes("a b 99 0", "b a 4 0", "c a 3 0")).tells("greatest()", 2);
        Doc.says("Promise 10", "NONE: 1 (no DUCHY).");
        new Run().refuses("greatest()", -1, 1);
    }

    private static void bald() {
        Doc.says("Promise 11", "Men who wear none, as bits.");
        Run.told(FIVE).tells("bald()", 18);
        Run.told(Texts.PLAIN + Texts.commons(5)).tells("bald()", 31);
        Run.told(Texts.PLAIN + Texts.commons(5) + Texts.owes("a b 1 0", "b a 1 0", "c a 1 0", "d a 1 0", "e a 1 0"))
            .tells("bald()", 0);
        Run.told(Texts.PLAIN + Texts.men("lady 0 0", "freak 0 0") + Texts.owes("a b 9 0", "b a 1 0"))
            .tells("bald()", 1);
        Doc.says("Promise 11", "NONE: 1 (no DUCHY).");
        new Run().refuses("bald()", -1, 1);
    }

    private static int risenBy(int spring) {
        int count = 0;
        for (int rise : SPRINGS) {
            count += rise <= spring ? 1 : 0;
        }
        return count;
    }

    private static void headIn() {
        Doc.says("Promise 12", "HEAD of a man n springs (0 .. 20) on, nothing being paid.");
        for (int now : new int[] {0, 1, 2, 9}) {
            Run run = springs(Run.told(RISING), now);
            for (int n = 0; n <= 20; n++) {
                run.asks("headIn(0, " + n + ")", risenBy(now + n)).asks("headIn(1, " + n + ")", 0);
            }
            run.tells("headIn(0, 20)", 7);
        }
        Doc.says("Promise 12", "NONE: 1; 2.");
        Run.told(RISING).refusesBeyond("headIn(#, 0)", 0, 1, -1, 1).refusesBeyond("headIn(1, #)", 0, 20, -1, 2)
            .refuses("headIn(2, 21)", -1, 1).refuses("headIn(-1, -1)", -1, 1);
    }

    private static void when() {
        Doc.says("Promise 13", "In how many springs (0: NOW; 20 at most) his HEAD is so much (0 .. 99) or more, first; "
            + "-2.");
        for (int now : new int[] {0, 1, 9}) {
            Run run = springs(Run.told(RISING), now);
            for (int head = 0; head <= 7; head++) {
                int spring = head == 0 ? 0 : SPRINGS[head - 1];
                run.asks("when(0, " + head + ")", Math.max(0, spring - now));
            }
            run.tells("when(0, 7)", 9 - now).tells("when(0, 8)", -2).tells("when(0, 99)", -2).tells("when(1, 0)", 0)
                .tells("when(1, 1)", -2);
        }
        String men = Texts.PLAIN + Texts.men("common 0 0", "lady 0 0");
        Run.told(men + Texts.owes("a b 99 9")).tells("when(0, 99)", 9).tells("when(0, 98)", 9);
        Run.told(men + Texts.owes("a b 98 9")).tells("when(0, 99)", -2).tells("when(0, 98)", 9);
        Doc.says("Promise 13", "NONE: 1; 2.");
        Run.told(RISING).refusesBeyond("when(#, 0)", 0, 1, -1, 1).refusesBeyond("when(0, #)", 0, 99, -1, 2)
            .refuses("when(2, 100)", -1, 1).refuses("when(-1, -1)", -1, 1);
    }

    private static void worstSpring() {
        Doc.says("Promise 14", "In how many springs (0 .. 20) HEADS together are most, the first such.");
        for (int now : new int[] {0, 1, 8, 9, 10}) {
            springs(Run.told(RISING), now).tells("worstSpring()", Math.max(0, 9 - now));
        }
        Run.told(Texts.PLAIN + Texts.commons(1)).tells("worstSpring()", 0);
        Run.told(Texts.PLAIN + Texts.men("lady 0 0", "freak 0 0") + Texts.owes("a b 9 9", "b a 1 4", "b a 1 5"))
            .tells("worstSpring()", 4);
        Doc.says("Promise 14", "NONE: 1 (no DUCHY).");
        new Run().refuses("worstSpring()", -1, 1);
    }

    private static void shutIn() {
        Doc.says("Promise 15", "In how many springs (0 .. 20) a man doesn't PASS a door first; -2.");
        for (int now : new int[] {0, 1, 9}) {
            springs(Run.told(RISING + Texts.doors(0, 1, 6, 7)), now).tells("shutIn(0, 0)", 0)
                .tells("shutIn(0, 1)", Math.max(0, 1 - now)).tells("shutIn(0, 2)", 9 - now).tells("shutIn(0, 3)", -2)
                .tells("shutIn(1, 0)", -2);
        }
        String men = Texts.PLAIN + Texts.men("common 0 0", "lady 0 0") + Texts.doors(40, 0);
        Run.told(men + Texts.owes("a b 40 0", "b a 9 0")).tells("shutIn(0, 0)", -2).tells("shutIn(0, 1)", 0)
            .tells("shutIn(1, 1)", -2);
        Run.told(men + Texts.owes("a b 40 0", "a b 1 9")).tells("shutIn(0, 0)", 9);
        Run.told(men + Texts.owes("a b 1 9")).tells("shutIn(0, 1)", 9);
        Doc.says("Promise 15", "NONE: 1.");
        Run.told(RISING + Texts.doors(0, 1, 6, 7)).refusesBeyond("shutIn(#, 0)", 0, 1, -1, 1)
            .refusesBeyond("shutIn(0, #)", 0, 3, -1, 1).refuses("shutIn(2, 4)", -1, 1);
        Run.told(RISING).refuses("shutIn(0, 0)", -1, 1);
    }
}
