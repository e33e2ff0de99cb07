/** The edges of promises 29 to 36: rumours, by readings that may err. */
final class RumourEdges {
    private RumourEdges() {
    }

    static void run() {
        readings();
        fitsNow();
        looks();
        fits();
        fitAt();
        likely();
        headIs();
        likeliest();
        look();
        lookLeaves();
        judge();
    }

    /** A man who owes so much, of whom one rumour tells more. */
    private static String one(int errs, int owes, int more, int... read) {
        StringBuilder text = new StringBuilder(Texts.duchy(1, errs, 0, 0) + Texts.commons(2));
        text.append(owes == 0 ? "" : Texts.owes("a b " + owes + " 0")).append(Texts.rumours("a b " + more + " 0"));
        for (int head : read) {
            text.append(Texts.reads("a " + head));
        }
        return text.toString();
    }

    private static Run odds(Run run, String call, long upper, long lower) {
        return run.tells(call + ", false)", upper).tells(call + ", true)", lower);
    }

    /** One reading: how many sets fit by it, and how likely the rumour is so then. */
    private static void reading(String text, int fits, long upper, long lower) {
        odds(Run.told(text).tells("fits()", fits), "likely(0", upper, lower);
    }

    private static void readings() {
        Doc.says("Terms III", "READING: a reader tells the HEAD, if he doesn't err; by errs, as likely as told, "
            + "one more or one less, each as likely (of no HEAD: one more).");
        reading(one(0, 2, 1, 1), 0, 0, 1);
        reading(one(0, 2, 1, 2), 1, 0, 1);
        reading(one(0, 2, 1, 3), 1, 1, 1);
        reading(one(0, 2, 1, 4), 0, 0, 1);
        // One in a hundred errs, half of them either way: 198 and 1 of 200; and the other way round.
        reading(one(1, 2, 1, 1), 1, 0, 1);
        reading(one(1, 2, 1, 2), 2, 1, 199);
        reading(one(1, 2, 1, 3), 2, 198, 199);
        reading(one(1, 2, 1, 4), 1, 1, 1);
        reading(one(99, 2, 1, 3), 2, 2, 101);
        reading(one(1, 2, 1, 0), 0, 0, 1);
        reading(one(1, 2, 1, 5), 0, 0, 1);
        // All err: what was read is never the HEAD.
        reading(one(100, 2, 2, 1), 1, 0, 1);
        reading(one(100, 2, 2, 2), 0, 0, 1);
        reading(one(100, 2, 2, 3), 2, 1, 2);
        reading(one(100, 2, 2, 4), 0, 0, 1);
        reading(one(100, 2, 2, 5), 1, 1, 1);
        // Of no HEAD all of errs is one more; of a HEAD of one, half of it is none.
        reading(one(40, 0, 1, 0), 2, 1, 4);
        reading(one(40, 0, 1, 1), 2, 3, 5);
        reading(one(40, 0, 1, 2), 1, 1, 1);
        reading(one(40, 0, 2, 1), 2, 1, 3);
        reading(one(100, 0, 1, 0), 1, 1, 1);
        reading(one(100, 0, 1, 1), 1, 0, 1);
        // The last WHOLE that can be read: one less than 41, as much as 40, one more than 39.
        reading(one(50, 39, 2, 40), 2, 1, 2);
        reading(one(50, 40, 1, 40), 2, 1, 3);
        // One more and one less of a duke's HEAD, not of his BURDEN.
        reading(one(50, 1, 1, 3).replace("man a common", "man a duke"), 2, 1, 2);
        reading(one(50, 1, 1, 1).replace("man a common", "man a lady"), 2, 1, 2);
    }

    private static void fitsNow() {
        Doc.says("Terms III", "FITS: sets of rumours (these are debts from the first spring on, the others aren't) "
            + "by which, NOW, what was read can be;");
        for (int spring : new int[] {0, 1, 9}) {
            Run run = Run.told(Texts.duchy(1, 0, 0, 0) + Texts.commons(2) + Texts.rumours("a b 3 " + spring)
                + Texts.reads("a 3"));
            for (int now = 0; now <= 10; now++) {
                run.asks("fits()", now >= spring ? 1 : 0).asks("fitAt(0)", now >= spring ? 1 : -1);
                run.does("spring()");
            }
        }
        Run run = Run.told(one(0, 2, 1, 3).replace("man a common coins 0", "man a common coins 9"));
        run.tells("fitAt(0)", 1);
        run.does("pay(0, 1)");
        run.tells("fits()", 0);
        run.does("undo()");
        run.tells("fits()", 1);
        Doc.says("Terms III", "each as likely ahead: ODDS are by how likely all readings were.");
        odds(Run.told(one(30, 2, 1)), "likely(0", 1, 2);
        odds(Run.told(one(30, 2, 1, 3)), "likely(0", 14, 17);
        odds(Run.told(one(30, 2, 1, 3, 3)), "likely(0", 196, 205);
        odds(Run.told(one(30, 2, 1, 3, 2)), "likely(0", 1, 2);
        odds(Run.told(one(30, 2, 1, 3, 3, 3, 2)), "likely(0", 196, 205);
        odds(Run.told(one(30, 2, 1, 3, 3, 3, 4)), "likely(0", 1, 1);
        odds(Run.told(one(33, 2, 1, 3, 3, 3, 3)), "likely(0", 322417936L, 323603857L);
    }

    /** Three men; the rumours' coins are told one by one. */
    private static String three(String... rumours) {
        return Texts.duchy(1, 50, 0, 0) + Texts.commons(3) + Texts.rumours(rumours);
    }

    private static void looks() {
        Doc.says("Terms III", "LOOK: the man whose HEAD, being told NOW, leaves at most fewest FITS, the first such.");
        Run.told(three("a b 1 0", "b c 1 0")).tells("look()", 0).tells("lookLeaves()", 2);
        Run.told(three("c b 1 0", "b c 1 0")).tells("look()", 1).tells("lookLeaves()", 2);
        Run.told(three("c b 1 0", "c b 2 0", "a b 1 0")).tells("look()", 2).tells("lookLeaves()", 2);
        // c's HEADS 0, 1, 1, 2 and b's 0, 1, 2, 3 by two rumours each.
        Run.told(three("c b 1 0", "c b 1 0", "b a 1 0", "b a 2 0")).tells("look()", 1).tells("lookLeaves()", 4);
        // What he owes already tells nothing: by every set a's HEAD is 3.
        Run.told(Texts.duchy(1, 50, 0, 0) + Texts.commons(3) + Texts.owes("a b 3 0") + Texts.rumours("b a 1 0"))
            .tells("look()", 1).tells("lookLeaves()", 1);
        // Only FITS count: what was read rules out that b owes nothing.
        Run.told(Texts.duchy(1, 0, 0, 0) + Texts.commons(3) + Texts.rumours("b a 1 0", "c a 1 0", "c a 1 0")
            + Texts.reads("b 1")).tells("look()", 2).tells("lookLeaves()", 2);
        // A rumour that isn't due yet changes no HEAD NOW.
        Run run = Run.told(three("c b 1 1", "b c 1 0")).tells("look()", 1);
        run.does("spring()");
        run.tells("look()", 1).tells("lookLeaves()", 2);
    }

    private static void fits() {
        Doc.says("Promise 29", "FITS: how many.");
        Run.told(Texts.PLAIN + Texts.commons(1)).tells("fits()", 1);
        Run.told(three("a b 1 0")).tells("fits()", 2);
        Run.told(three("a b 1 0", "a b 1 0", "b a 99 0", "c a 1 0")).tells("fits()", 16);
        Run.told(three("a b 1 0", "a b 1 0", "b a 99 0", "c a 1 0") + Texts.reads("a 0", "b 0", "c 0"))
            .tells("fits()", 6);
        Run.told(Texts.PLAIN + Texts.commons(1) + Texts.reads("a 1")).tells("fits()", 0);
        Run.told(TextEdges.FULL).tells("fits()", 0);
        Doc.says("Promise 29", "NONE: 1 (no DUCHY).");
        new Run().refuses("fits()", -1, 1);
    }

    private static void fitAt() {
        Doc.says("Promise 30", "The i-th, by bits.");
        Run all = Run.told(three("a b 1 0", "a b 1 0", "b a 99 0", "c a 1 0"));
        for (int i = 0; i < 16; i++) {
            all.gives("fitAt(" + i + ")", i);
        }
        Run some = Run.told(Texts.PLAIN + Texts.commons(3) + Texts.rumours("a b 1 0", "a b 1 0", "c a 2 0", "c b 2 0")
            + Texts.reads("a 1", "c 2"));
        int[] sets = {5, 6, 9, 10};
        for (int i = 0; i < sets.length; i++) {
            some.tells("fitAt(" + i + ")", sets[i]);
        }
        Doc.says("Promise 30", "NONE: 1 (i, too).");
        new Run().refuses("fitAt(0)", -1, 1).refuses("fitAt(-1)", -1, 1);
        some.refusesBeyond("fitAt(#)", 0, 3, -1, 1);
        Run.told(three("a b 1 0", "a b 1 0", "b a 99 0", "c a 1 0")).refusesBeyond("fitAt(#)", 0, 15, -1, 1);
        Run.told(Texts.PLAIN + Texts.commons(1)).tells("fitAt(0)", 0).refusesBeyond("fitAt(#)", 0, 0, -1, 1);
        Run.told(Texts.PLAIN + Texts.commons(1) + Texts.reads("a 1")).refuses("fitAt(0)", -1, 1);
    }

    private static void likely() {
        Doc.says("Promise 31", "How likely a rumour is so, the upper WHOLE or the lower, in lowest terms");
        Run four = Run.told(three("a b 1 0", "a b 1 0", "b a 99 0", "c a 1 0") + Texts.reads("a 2"));
        // a's HEAD is 0, 1, 1, 2 by the first two: 0, 50, 50, 100 of 200.
        odds(odds(four, "likely(0", 3, 4), "likely(1", 3, 4);
        odds(odds(four, "likely(2", 1, 2), "likely(3", 1, 2);
        // More than an int holds: 198 to the fourth power, thrice, and four.
        odds(Run.told(Texts.duchy(1, 1, 0, 0) + Texts.commons(2) + Texts.owes("a b 2 0")
            + Texts.rumours("a b 1 0", "a b 1 0", "a b 1 0") + Texts.reads("a 3", "a 3", "a 3", "a 3")),
            "likely(0", 768476809L, 2305430426L);
        Doc.says("Promise 31", "(0 by 1; also without FITS).");
        odds(Run.told(one(0, 2, 1, 2)), "likely(0", 0, 1);
        odds(Run.told(one(0, 2, 1, 9)), "likely(0", 0, 1);
        odds(Run.told(one(0, 2, 1, 3)), "likely(0", 1, 1);
        Doc.says("Promise 31", "-1: 1.");
        Run.told(Check.BASE).refusesBeyond("likely(#, false)", 0, 1, -1, 1)
            .refusesBeyond("likely(#, true)", 0, 1, -1, 1);
        Run.told(three("a b 1 0", "a b 1 0", "b a 99 0", "c a 1 0")).refusesBeyond("likely(#, true)", 0, 3, -1, 1);
        Run.told(Texts.PLAIN + Texts.commons(2) + Texts.owes("a b 1 0")).refuses("likely(0, false)", -1, 1);
    }

    private static void headIs() {
        Doc.says("Promise 32", "How likely a man's HEAD is so much (0 .. 99) NOW, likewise.");
        Run run = Run.told(three("a b 1 0", "a b 1 0", "b a 99 0") + Texts.reads("a 2"));
        odds(odds(run, "headIs(0, 0", 0, 1), "headIs(0, 1", 1, 2);
        odds(odds(run, "headIs(0, 2", 1, 2), "headIs(0, 3", 0, 1);
        odds(odds(run, "headIs(1, 99", 1, 2), "headIs(1, 0", 1, 2);
        odds(odds(run, "headIs(2, 0", 1, 1), "headIs(2, 99", 0, 1);
        odds(Run.told(one(0, 2, 1, 9)), "headIs(0, 2", 0, 1);
        run = Run.told(Texts.PLAIN + Texts.commons(2) + Texts.owes("a b 5 1"));
        odds(odds(run, "headIs(0, 0", 1, 1), "headIs(0, 5", 0, 1);
        run.does("spring()");
        odds(odds(run, "headIs(0, 0", 0, 1), "headIs(0, 5", 1, 1);
        Doc.says("Promise 32", "-1: 1; 2.");
        Run.told(Check.BASE).refusesBeyond("headIs(#, 0, false)", 0, 3, -1, 1)
            .refusesBeyond("headIs(3, #, false)", 0, 99, -1, 2).refuses("headIs(4, 100, false)", -1, 1);
        Run.told(Check.BASE).refusesBeyond("headIs(#, 0, true)", 0, 3, -1, 1)
            .refusesBeyond("headIs(0, #, true)", 0, 99, -1, 2).refuses("headIs(-1, -1, true)", -1, 1);
    }

    private static void likeliest() {
        Doc.says("Promise 33", "The likeliest set, of like ones the first by bits");
        Run.told(one(0, 2, 1)).tells("likeliest()", 0);
        Run.told(one(1, 2, 1, 3)).tells("likeliest()", 1);
        // 66 errs: as the HEAD 68 of 200, one off 66; 67 errs: 66 and 67.
        Run.told(one(66, 2, 1, 3)).tells("likeliest()", 1);
        Run.told(one(67, 2, 1, 3)).tells("likeliest()", 0);
        Run.told(three("a b 2 0", "a b 1 0", "a b 1 0", "b a 1 0") + Texts.reads("a 2")).tells("likeliest()", 1);
        Run.told(three("b a 1 0", "a b 1 0", "a b 1 0", "b a 1 0") + Texts.reads("a 2", "b 2"))
            .tells("likeliest()", 15);
        Run.told(Texts.PLAIN + Texts.commons(1)).tells("likeliest()", 0);
        Doc.says("Promise 33", "-2 no FITS.");
        Run.told(one(0, 2, 1, 9)).tells("likeliest()", -2);
        Doc.says("Promise 33", "NONE: 1 (no DUCHY).");
        new Run().refuses("likeliest()", -1, 1);
    }

    private static void look() {
        Doc.says("Promise 34", "LOOK;");
        Run.told(Texts.PLAIN + Texts.commons(1)).tells("look()", 0);
        Run.told(three()).tells("look()", 0);
        Run.told(three("c a 1 0")).tells("look()", 2);
        Run.told(Texts.duchy(1, 50, 0, 0) + Texts.commons(5) + Texts.rumours("e a 1 0")).tells("look()", 4);
        Run.told(Texts.duchy(1, 50, 0, 0) + Texts.men("lady 0 0", "freak 0 0", "duke 0 0")
            + Texts.rumours("a b 1 0", "b a 1 0", "b a 1 0", "c a 1 0")).tells("look()", 2);
        Doc.says("Promise 34", "-2 no FITS.");
        Run.told(one(0, 2, 1, 9)).tells("look()", -2);
        Doc.says("Promise 34", "NONE: 1 (no DUCHY).");
        new Run().refuses("look()", -1, 1);
    }

    private static void lookLeaves() {
        Doc.says("Promise 35", "How many are left at most then");
        Run.told(Texts.PLAIN + Texts.commons(1)).tells("lookLeaves()", 1);
        Run.told(three("a b 1 0", "a b 2 0", "a b 4 0", "a b 8 0")).tells("lookLeaves()", 1);
        Run.told(three("a b 1 0", "a b 1 0", "a b 1 0", "a b 1 0")).tells("lookLeaves()", 6);
        Run.told(Texts.duchy(1, 50, 0, 0) + Texts.men("lady 0 0", "lady 0 0")
            + Texts.rumours("a b 1 0", "a b 1 0", "b a 1 0", "b a 1 0")).tells("look()", 0).tells("lookLeaves()", 16);
        Doc.says("Promise 35", "-2 likewise.");
        Run.told(one(0, 2, 1, 9)).tells("lookLeaves()", -2);
        Doc.says("Promise 35", "NONE: 1 (no DUCHY).");
        new Run().refuses("lookLeaves()", -1, 1);
    }

    private static void judge() {
        Doc.says("Promise 36", "The first reading that can't be without rumours; -2.");
        Run.told(Texts.PLAIN + Texts.commons(1)).tells("judge()", -2);
        Run.told(one(0, 2, 1, 2, 2, 2, 2)).tells("judge()", -2);
        Run.told(one(0, 2, 1, 3)).tells("judge()", 0);
        Run.told(one(0, 2, 1, 2, 2, 2, 3)).tells("judge()", 3);
        Run.told(one(1, 2, 1, 1, 2, 3, 4)).tells("judge()", 3);
        Run.told(one(1, 2, 1, 1, 0, 4)).tells("judge()", 1);
        Run.told(one(1, 2, 2, 3, 4, 5)).tells("judge()", 1);
        Run.told(one(100, 2, 1, 1, 3, 2)).tells("judge()", 2);
        Run.told(one(1, 0, 1, 0, 1, 2)).tells("judge()", 2);
        Run.told(one(100, 0, 1, 1, 0)).tells("judge()", 1);
        Run run = Run.told(Texts.PLAIN + Texts.commons(2) + Texts.owes("a b 5 1") + Texts.reads("a 0"))
            .tells("judge()", -2);
        run.does("spring()");
        run.tells("judge()", 0);
        Doc.says("Promise 36", "NONE: 1 (no DUCHY).");
        new Run().refuses("judge()", -1, 1);
    }
}
