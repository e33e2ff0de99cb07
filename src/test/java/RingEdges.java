/** The edges of promises 24 to 28: rings of debts. */
final class RingEdges {
    private static final String FIVE = Texts.PLAIN + Texts.commons(5);
    /** Through a and c two men, through b three, through d and e none. */
    private static final String SOME = FIVE
        + Texts.owes("a b 5 0", "b c 7 0", "c a 6 0", "a c 2 0", "d a 9 0", "c a 1 1", "d e 9 0");

    private RingEdges() {
    }

    static void run() {
        fewest();
        letOffSums();
        ring();
        ringAt();
        ringSum();
        bestRing();
        reach();
    }

    private static void through(Run run, int m, int sum, int... row) {
        run.tells("ring(" + m + ")", row.length == 0 ? -2 : row.length);
        run.tells("ringSum(" + m + ")", row.length == 0 ? -2 : sum);
        for (int i = 0; i < row.length; i++) {
            run.asks("ringAt(" + m + ", " + i + ")", row[i]);
        }
        run.refuses("ringAt(" + m + ", " + row.length + ")", -1, 1);
    }

    private static void fewest() {
        Doc.says("Terms III", "RING through a man: he owes (DUE) the next one, that one the next .., the last one him: "
            + "the fewest men (2 or more), of like ones the first row by men, one by one.");
        through(Run.told(FIVE + Texts.owes("a b 1 0", "b a 1 0")), 0, 1, 0, 1);
        through(Run.told(FIVE + Texts.owes("a b 1 0", "b a 1 0")), 1, 1, 1, 0);
        through(Run.told(FIVE + Texts.owes("a b 1 0", "b a 1 1")), 0, 0);
        through(Run.told(FIVE + Texts.owes("a b 1 0")), 0, 0);
        through(Run.told(FIVE + Texts.owes("a b 1 0")), 1, 0);
        String all = FIVE + Texts.owes("a e 5 0", "e b 4 0", "b d 3 0", "d c 2 0", "c a 1 0");
        through(Run.told(all), 0, 1, 0, 4, 1, 3, 2);
        through(Run.told(all), 4, 1, 4, 1, 3, 2, 0);
        // A shorter ring is ahead of one that is first by men.
        through(Run.told(FIVE + Texts.owes("a b 9 0", "b c 9 0", "c a 9 0", "a e 1 0", "e a 1 0")), 0, 1, 0, 4);
        through(Run.told(FIVE + Texts.owes("a b 1 0", "b a 1 0", "a c 9 0", "c b 9 0")), 0, 1, 0, 1);
        through(Run.told(FIVE + Texts.owes("a c 9 0", "c b 9 0", "b a 9 0", "a d 9 0", "d c 9 0")), 0, 9, 0, 2, 1);
        // Of like ones the first man counts first, whichever debt is told first.
        through(Run.told(FIVE + Texts.owes("a e 9 0", "e a 9 0", "a d 1 0", "d a 1 0")), 0, 1, 0, 3);
        through(Run.told(FIVE + Texts.owes("a d 9 0", "d b 9 0", "b a 9 0", "a c 1 0", "c e 1 0", "e a 1 0")), 0, 1,
            0, 2, 4);
        through(Run.told(FIVE + Texts.owes("a b 9 0", "b e 9 0", "b d 3 0", "e a 9 0", "d a 9 0")), 0, 3, 0, 1, 3);
        // A ring that he only leads to is none through him.
        through(Run.told(FIVE + Texts.owes("a b 9 0", "b c 9 0", "c b 9 0")), 0, 0);
        Run run = Run.told(Texts.PLAIN + Texts.men("common 9 0", "lady 9 0") + Texts.owes("a b 2 0", "b a 2 0"));
        run.does("pay(0, 1)");
        through(run, 0, 1, 0, 1);
        run.does("pay(0, 1)");
        through(run, 0, 0);
    }

    private static void letOffSums() {
        Doc.says("Terms III", "What can be LET OFF by it: the least of what is LEFT of DUE debts "
            + "from each to the next together: as much less of each (of debts from one to the other "
            + "the first ones first).");
        String two = Texts.PLAIN + Texts.commons(3) + Texts.owes("a b 4 0", "a b 9 1", "a b 3 0", "a c 9 0", "b a 6 0",
            "a b 2 0");
        Run run = Run.told(two);
        through(run, 0, 6, 0, 1);
        run = Run.told(two).gives("letOff(1)", 6);
        int[] left = {0, 9, 1, 9, 0, 2};
        for (int k = 0; k < left.length; k++) {
            run.asks("debt(" + k + ", 2)", left[k]);
        }
        // Just as much as the first debt: the next one stays whole.
        run = Run.told(two.replace("owes b a 6", "owes b a 4")).gives("letOff(0)", 4);
        run.asks("debt(0, 2)", 0).asks("debt(2, 2)", 3).asks("debt(4, 2)", 0);
        // More than all from the first one to the other: the least is on the other side.
        run = Run.told(two.replace("owes b a 6", "owes b a 99")).gives("letOff(0)", 9);
        run.asks("debt(0, 2)", 0).asks("debt(1, 2)", 9).asks("debt(2, 2)", 0).asks("debt(5, 2)", 0)
            .asks("debt(4, 2)", 90);
        // In the next spring what comes up then is among them, by its place.
        run = Run.told(two.replace("owes b a 6", "owes b a 10"));
        run.does("spring()");
        run.gives("letOff(0)", 10).asks("debt(0, 2)", 0).asks("debt(1, 2)", 3).asks("debt(2, 2)", 3);
        // As many debts as there may be: all of them, and as much as three of them and a coin of the fourth.
        String seven = FIVE + Texts.owes("a b 1 0", "a b 2 0", "a b 3 0", "a b 4 0", "a b 5 0", "a b 6 0", "b a 99 0");
        run = Run.told(seven).gives("letOff(0)", 21).asks("man(0, 5)", 0).asks("debt(6, 2)", 78);
        run = Run.told(seven.replace("b a 99", "b a 7")).gives("letOff(0)", 7).asks("debt(2, 2)", 0)
            .asks("debt(3, 2)", 3).asks("debt(4, 2)", 5).asks("debt(5, 2)", 6).asks("debt(6, 2)", 0);
        run = Run.told(FIVE + Texts.owes("a e 5 0", "e b 4 0", "b d 3 0", "d c 2 0", "c a 1 0")).gives("letOff(3)", 1);
        for (int k = 0; k < 5; k++) {
            run.asks("debt(" + k + ", 2)", 4 - k);
        }
    }

    private static void ring() {
        Doc.says("Promise 24", "RING through a man: how many men");
        Run.told(SOME).tells("ring(0)", 2).tells("ring(1)", 3).tells("ring(2)", 2);
        Doc.says("Promise 24", "-2 there is none.");
        Run.told(SOME).tells("ring(3)", -2).tells("ring(4)", -2);
        Run.told(Texts.PLAIN + Texts.commons(1)).tells("ring(0)", -2);
        Doc.says("Promise 24", "NONE: 1.");
        Run.told(SOME).refusesBeyond("ring(#)", 0, 4, -1, 1);
    }

    private static void ringAt() {
        Doc.says("Promise 25", "The i-th man of it (0: himself).");
        Run.told(SOME).tells("ringAt(1, 0)", 1).tells("ringAt(1, 1)", 2).tells("ringAt(1, 2)", 0)
            .tells("ringAt(2, 0)", 2).tells("ringAt(2, 1)", 0);
        Doc.says("Promise 25", "NONE: 1 (i, too; there is none).");
        Run.told(SOME).refusesBeyond("ringAt(1, #)", 0, 2, -1, 1).refusesBeyond("ringAt(#, 0)", 0, 4, -1, 1)
            .refuses("ringAt(3, 0)", -1, 1).refuses("ringAt(3, -2)", -1, 1).refuses("ringAt(0, 2)", -1, 1);
        Run.told(FIVE + Texts.owes("a e 5 0", "e b 4 0", "b d 3 0", "d c 2 0", "c a 1 0")).tells("ringAt(0, 4)", 2)
            .refusesBeyond("ringAt(0, #)", 0, 4, -1, 1);
    }

    private static void ringSum() {
        Doc.says("Promise 26", "What can be LET OFF by it");
        Run run = Run.told(SOME).tells("ringSum(0)", 2).tells("ringSum(1)", 5).tells("ringSum(2)", 2);
        run.does("shed(0)");
        Doc.says("Promise 26", "-2 there is none.");
        run.tells("ringSum(0)", -2).tells("ringSum(3)", -2);
        Doc.says("Promise 26", "NONE: 1.");
        Run.told(SOME).refusesBeyond("ringSum(#)", 0, 4, -1, 1);
    }

    private static void bestRing() {
        Doc.says("Promise 27", "The man through whom most can be LET OFF "
            + "(each as often as there are men in the RING), the first such");
        Run.told(SOME).tells("bestRing()", 1);
        // Twice 6 and thrice 4: like ones, the first; then one more on either side.
        String[] twoAndThree = {"b c 4 0", "c d 4 0", "d b 4 0", "a e 6 0", "e a 6 0"};
        Run.told(FIVE + Texts.owes(twoAndThree)).tells("bestRing()", 0);
        Run.told((FIVE + Texts.owes(twoAndThree)).replace(" 6 ", " 5 ")).tells("bestRing()", 1);
        Run.told((FIVE + Texts.owes(twoAndThree)).replace(" 4 ", " 5 ")).tells("bestRing()", 1);
        Run.told(FIVE + Texts.owes("d e 1 0", "e d 1 0")).tells("bestRing()", 3);
        Doc.says("Promise 27", "-2 there is no RING.");
        Run.told(FIVE).tells("bestRing()", -2);
        Run.told(FIVE + Texts.owes("a b 1 0", "b c 1 0", "c a 1 1")).tells("bestRing()", -2);
        Doc.says("Promise 27", "NONE: 1 (no DUCHY).");
        new Run().refuses("bestRing()", -1, 1);
    }

    private static void reach() {
        Doc.says("Promise 28", "Men whom a man owes (DUE), whom these owe, and so on, as bits.");
        Run.told(SOME).tells("reach(0)", 7).tells("reach(3)", 23).tells("reach(4)", 0);
        // Each owes the one ahead of him, so that the last one reaches all others by four steps, but not himself.
        String chain = FIVE + Texts.owes("e d 1 0", "d c 1 0", "c b 1 0", "b a 1 0");
        Run.told(chain).tells("reach(4)", 15).tells("reach(1)", 1).tells("reach(0)", 0);
        String back = FIVE + Texts.owes("a b 1 0", "b c 1 0", "c d 1 0", "d e 1 0", "e a 1 1");
        Run run = Run.told(back).tells("reach(0)", 30).tells("reach(4)", 0);
        run.does("spring()");
        run.tells("reach(0)", 31).tells("reach(4)", 31);
        Doc.says("Promise 28", "NONE: 1.");
        Run.told(SOME).refusesBeyond("reach(#)", 0, 4, -1, 1);
    }
}
