/** The edges of promises 16 to 23: what passing costs, the cheapest tine, widths, and most guests. */
final class DoorEdges {
    private DoorEdges() {
    }

    static void run() {
        tolls();
        payFor();
        payAll();
        passers();
        shamed();
        cheapest();
        widthFor();
        guestsOfLikeRows();
        guests();
        doorOf();
    }

    /** A man's toll at a door: with just as many coins, with one fewer, and with none. */
    private static void toll(String kind, String debts, int wide, int toll) {
        for (int coins : new int[] {toll, toll - 1, 0, 99}) {
            if (coins >= 0) {
                Run.told(Texts.duchy(5, 0, 0, 0) + Texts.men(kind + " " + coins + " 0", "lady 99 0")
                    + Texts.owes(debts.split(",")) + Texts.doors(wide)).tells("payFor(0, 0)", coins < toll ? -2 : toll);
            }
        }
    }

    private static void tolls() {
        Doc.says("Terms III", "To PASS a door he pays of DUE debts, coin by coin, as few as may be");
        // 6 is two tines, of which one costs a coin; 10 is two whole ones; what isn't due isn't paid.
        int[] twoDebts = {16, 11, 6, 1, 0};
        for (int wide = 0; wide < twoDebts.length; wide++) {
            toll("common", "a b 10 0,a b 6 0,a b 1 1", wide, twoDebts[wide]);
        }
        int[] common = {12, 7, 2, 0};
        int[] duke = {12, 12, 7, 7, 2, 2, 0};
        int[] freak = {12, 2, 0};
        for (int wide = 0; wide < duke.length; wide++) {
            toll("duke", "a b 12 0", wide, duke[wide]);
            toll("common", "a b 12 0", wide, wide < 3 ? common[wide] : 0);
            toll("freak", "a b 12 0", wide, wide < 2 ? freak[wide] : 0);
            toll("lady", "a b 12 0", wide, 0);
        }
        // As many debts as there may be: tines of 1, 1, 2, 2, 3, 4, 5, 5 and 5 coins.
        int[] seven = {28, 23, 18, 13, 9, 6, 4, 2, 1, 0};
        for (int wide = 0; wide < seven.length; wide++) {
            toll("common", "a b 1 0,a b 2 0,a b 3 0,a b 4 0,a b 5 0,a b 6 0,a b 7 0", wide, seven[wide]);
        }
        toll("common", "a b 99 0", 19, 4);
        toll("common", "a b 99 0", 0, 99);
        toll("common", "a b 5 0", 0, 5);
        toll("common", "a b 1 0", 0, 1);
        Doc.says("Terms III", "(his own coins NOW; who wears as little already: none).");
        toll("common", "a b 12 0", 3, 0);
        toll("common", "a b 12 0", 40, 0);
        Run run = Run.told(Texts.duchy(5, 0, 0, 0) + Texts.men("common 6 0", "common 1 0")
            + Texts.owes("a b 12 0", "b a 1 0") + Texts.doors(1, 2)).tells("payFor(0, 0)", -2);
        run.does("pay(1, 1)");
        run.tells("payFor(0, 0)", 7);
        run.does("pay(0, 2)");
        run.tells("payFor(0, 0)", 5).tells("payFor(0, 1)", 0);
    }

    private static void payFor() {
        Doc.says("Promise 16", "The coins a man pays to PASS a door");
        Run run = Run.told(Check.BASE);
        int[][] rows = {{0, 2, -2}, {0, 0, 0}, {0, 3, 8}, {0, 0, -2}};
        for (int m = 0; m < 4; m++) {
            for (int d = 0; d < 3; d++) {
                run.gives("payFor(" + m + ", " + d + ")", rows[m][d]);
            }
        }
        Doc.says("Promise 16", "-2 he hasn't as many.");
        toll("duke", "a b 99 0", 1, 99);
        toll("common", "a b 2 0", 0, 2);
        Doc.says("Promise 16", "NONE: 1.");
        Run.told(Check.BASE).refusesBeyond("payFor(#, 0)", 0, 3, -1, 1).refusesBeyond("payFor(0, #)", 0, 2, -1, 1)
            .refuses("payFor(4, 3)", -1, 1);
        Run.told(Texts.PLAIN + Texts.commons(1)).refuses("payFor(0, 0)", -1, 1);
    }

    /** Three men with tolls of 2, 3 and 0; the first has as many coins as told. */
    private static String three(int coins, String... invited) {
        return Texts.duchy(5, 0, 0, 0) + Texts.men("common " + coins + " 0", "duke 3 0", "lady 0 0")
            + Texts.owes("a b 7 0", "b c 8 0", "c a 99 0") + Texts.doors(1, 2, 0) + Texts.invited(invited);
    }

    private static void payAll() {
        Doc.says("Promise 17", "The coins that all invited ones would pay together");
        Run.told(three(2)).tells("payAll()", 0);
        Run.told(three(2, "a p")).tells("payAll()", 2);
        Run.told(three(2, "a p", "b q", "c r")).tells("payAll()", 5);
        Run.told(three(2, "b q", "c r")).tells("payAll()", 3);
        Run.told(three(2, "a q", "c q")).tells("payAll()", 0);
        String five = Texts.PLAIN + Texts.men("common 9 0", "common 9 0", "common 9 0", "common 9 0", "common 9 0")
            + Texts.owes("a b 1 0", "b a 2 0", "c a 3 0", "d a 4 0", "e a 5 0") + Texts.doors(0);
        Run.told(five + Texts.invited("a p", "b p", "c p", "d p", "e p")).tells("payAll()", 15);
        Run.told(five + Texts.invited("e p")).tells("payAll()", 5);
        Run.told(five).tells("payAll()", 0);
        Doc.says("Promise 17", "-2 one of them can't.");
        Run.told(three(1, "a p", "b q", "c r")).tells("payAll()", -2);
        Run.told(three(1, "a p")).tells("payAll()", -2);
        Run.told(three(1, "b q", "c r")).tells("payAll()", 3);
        Run.told(three(99, "a p", "b r")).tells("payAll()", -2);
        Doc.says("Promise 17", "NONE: 1 (no DUCHY).");
        new Run().refuses("payAll()", -1, 1);
    }

    private static void passers() {
        Doc.says("Promise 18", "Invited ones who PASS their doors NOW, as bits of men.");
        Run.told(three(9)).tells("passers()", 0);
        Run.told(three(9, "a p", "b q", "c r")).tells("passers()", 4);
        Run.told(three(9, "a q", "b p", "c r")).tells("passers()", 5);
        Run run = Run.told(three(9, "a p", "b q"));
        run.does("pay(0, 2)");
        run.tells("passers()", 1);
        Run.told(Texts.PLAIN + Texts.commons(5) + Texts.doors(0) + Texts.invited("a p", "b p", "c p", "d p", "e p"))
            .tells("passers()", 31);
        Run.told(Texts.PLAIN + Texts.commons(5) + Texts.doors(0) + Texts.invited("e p")).tells("passers()", 16);
        Doc.says("Promise 18", "NONE: 1 (no DUCHY).");
        new Run().refuses("passers()", -1, 1);
    }

    private static void shamed() {
        Doc.says("Promise 19", "Invited ones who can't pay for it, as bits of men.");
        Run.told(three(1)).tells("shamed()", 0);
        Run.told(three(1, "a p", "b q", "c r")).tells("shamed()", 1);
        Run.told(three(2, "a p", "b q", "c r")).tells("shamed()", 0);
        Run.told(three(1, "a r", "b r", "c r")).tells("shamed()", 3);
        Run.told(Texts.PLAIN + Texts.commons(5) + Texts.owes("a e 1 0", "b e 1 0", "c e 1 0", "d e 1 0", "e a 1 0")
            + Texts.doors(0, 1) + Texts.invited("a p", "b p", "c p", "d q", "e p")).tells("shamed()", 23);
        Doc.says("Promise 19", "NONE: 1 (no DUCHY).");
        new Run().refuses("shamed()", -1, 1);
    }

    private static void cheapest() {
        Doc.says("Promise 20", "The DUE debt of a man of which a TINE less costs least, the first such");
        String men = Texts.duchy(5, 0, 0, 0) + Texts.men("common 9 0", "lady 0 0", "duke 0 0");
        Run.told(men + Texts.owes("a b 10 0", "a b 9 0", "a b 8 0")).tells("cheapest(0)", 2);
        Run.told(men + Texts.owes("a b 6 0", "a b 5 0", "a b 1 0")).tells("cheapest(0)", 0);
        Run.told(men + Texts.owes("a b 5 0", "a b 95 0", "b a 1 0")).tells("cheapest(0)", 0).tells("cheapest(1)", 2);
        Run.told(men + Texts.owes("a b 5 0", "a b 99 0", "c a 1 0")).tells("cheapest(0)", 1).tells("cheapest(2)", 2);
        Run run = Run.told(men + Texts.owes("a b 2 0", "a b 1 1", "a b 2 0")).tells("cheapest(0)", 0);
        run.does("pay(2, 1)");
        run.tells("cheapest(0)", 2);
        run.does("pay(2, 1)");
        run.tells("cheapest(0)", 0);
        run.does("spring()");
        run.tells("cheapest(0)", 1);
        Run.told(men + Texts.owes("b a 99 0", "b a 99 0", "b a 99 0", "b a 99 0", "b a 99 0", "b a 99 0", "a b 99 0"))
            .tells("cheapest(0)", 6).tells("cheapest(1)", 0);
        Doc.says("Promise 20", "-2 there is none.");
        Run.told(men).tells("cheapest(0)", -2);
        Run.told(men + Texts.owes("a b 1 1", "b a 1 0")).tells("cheapest(0)", -2).tells("cheapest(2)", -2);
        Doc.says("Promise 20", "NONE: 1.");
        Run.told(men + Texts.owes("a b 1 0")).refusesBeyond("cheapest(#)", 0, 2, -1, 1);
    }

    private static void widthFor() {
        Doc.says("Promise 21", "The least width of a door by which so many men (0 .. men) PASS.");
        Run run = Run.told(Texts.PLAIN + Texts.commons(5) + Texts.owes("a b 3 0", "b a 41 0", "c a 3 0", "d a 1 0",
            "e a 99 0"));
        int[] widths = {0, 1, 3, 3, 41, 99};
        for (int men = 0; men <= 5; men++) {
            run.tells("widthFor(" + men + ")", widths[men]);
        }
        run = Run.told(Texts.PLAIN + Texts.commons(2) + Texts.owes("a b 3 0", "b a 5 0"));
        run.tells("widthFor(0)", 0).tells("widthFor(1)", 3).tells("widthFor(2)", 5);
        Run.told(Texts.PLAIN + Texts.commons(1)).tells("widthFor(0)", 0).tells("widthFor(1)", 0)
            .refuses("widthFor(2)", -1, 2);
        Doc.says("Promise 21", "NONE: 1 (no DUCHY); 2.");
        new Run().refuses("widthFor(0)", -1, 1).refuses("widthFor(1)", -1, 1).refuses("widthFor(-1)", -1, 1);
        Run.told(Texts.PLAIN + Texts.commons(5)).refusesBeyond("widthFor(#)", 0, 5, -1, 2);
        Run.told(Texts.PLAIN + Texts.commons(4)).refusesBeyond("widthFor(#)", 0, 4, -1, 2);
    }

    private static void row(String text, int guests, int... doors) {
        Run run = Run.told(text).tells("guests()", guests);
        for (int m = 0; m < doors.length; m++) {
            run.tells("doorOf(" + m + ")", doors[m]);
        }
    }

    private static void guestsOfLikeRows() {
        Doc.says("Terms III", "GUESTS: twos of a man and a door he PASSES, no man, no door twice: the most; "
            + "of like ones the first row of doors by men (none behind all).");
        String five = Texts.PLAIN + Texts.commons(5);
        row(five + Texts.doors(0, 0, 0, 0), 4, 0, 1, 2, 3, -2);
        row(five + Texts.doors(0), 1, 0, -2, -2, -2, -2);
        row(Texts.PLAIN + Texts.commons(2) + Texts.doors(0, 0, 0, 0), 2, 0, 1);
        // The first man must leave the first door to the second one, who passes no other.
        row(Texts.PLAIN + Texts.commons(2) + Texts.owes("b a 3 0") + Texts.doors(3, 2), 2, 1, 0);
        row(Texts.PLAIN + Texts.commons(2) + Texts.owes("b a 4 0") + Texts.doors(3, 2), 1, 0, -2);
        // As many without the first man as with him: a door is ahead of none.
        row(Texts.PLAIN + Texts.commons(3) + Texts.owes("a b 3 0") + Texts.doors(3, 2), 2, 0, 1, -2);
        row(Texts.PLAIN + Texts.commons(3) + Texts.owes("a b 4 0") + Texts.doors(3, 2), 2, -2, 0, 1);
        row(Texts.PLAIN + Texts.men("common 0 0", "duke 0 0", "freak 0 0", "lady 0 0")
            + Texts.owes("a b 40 0", "b a 20 0", "c a 80 0", "d a 99 0") + Texts.doors(39, 40, 38), 2, 1, -2, -2, 0);
        // Who is invited where means nothing to it.
        row(Texts.PLAIN + Texts.commons(2) + Texts.doors(0, 0) + Texts.invited("a q", "b q"), 2, 0, 1);
    }

    private static void guests() {
        Doc.says("Promise 22", "GUESTS: how many.");
        Run.told(Texts.PLAIN + Texts.commons(5)).tells("guests()", 0);
        Run run = Run.told(Texts.PLAIN + Texts.men("common 1 0", "lady 0 0") + Texts.owes("a b 1 0")
            + Texts.doors(0, 0)).tells("guests()", 1);
        run.does("pay(0, 1)");
        run.tells("guests()", 2);
        Doc.says("Promise 22", "NONE: 1 (no DUCHY).");
        new Run().refuses("guests()", -1, 1);
    }

    private static void doorOf() {
        Doc.says("Promise 23", "The door of a man by it");
        Run run = Run.told(Check.BASE).tells("doorOf(0)", 0).tells("doorOf(1)", 2).tells("doorOf(3)", 1);
        run.does("shed(2)");
        run.tells("doorOf(0)", 0).tells("doorOf(1)", 1).tells("doorOf(2)", 2).tells("doorOf(3)", -2);
        Doc.says("Promise 23", "-2 none.");
        Run.told(Check.BASE).tells("doorOf(2)", -2);
        Run.told(Texts.PLAIN + Texts.commons(1)).tells("doorOf(0)", -2);
        Doc.says("Promise 23", "NONE: 1.");
        Run.told(Check.BASE).refusesBeyond("doorOf(#)", 0, 3, -1, 1);
    }
}
