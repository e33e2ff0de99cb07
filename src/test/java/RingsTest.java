/** Promises 24 to 28: rings of debts. */
public final class RingsTest {
    private static final String FIVE = "duchy tine 1 errs 0 lock 0 moth 0;man a common coins 0 strong 0;"
        + "man b common coins 0 strong 0;man c common coins 0 strong 0;man d common coins 0 strong 0;"
        + "man e common coins 0 strong 0;";

    private RingsTest() {
    }

    public static void main(String[] args) {
        base();
        likeRings();
        longest();
        sums();
        refusals();
        Check.end();
    }

    private static void ring(AntlerYear x, int m, int sum, int... row) {
        Check.due(x, "ring(" + m + ")", x.ring(m), row.length, 0);
        for (int i = 0; i < row.length; i++) {
            Check.due(x, "ringAt(" + m + ", " + i + ")", x.ringAt(m, i), row[i], 0);
        }
        Check.due(x, "ringAt behind the last one", x.ringAt(m, row.length), -1, 1);
        Check.due(x, "ringAt ahead of the first one", x.ringAt(m, -1), -1, 1);
        Check.due(x, "ringSum(" + m + ")", x.ringSum(m), sum, 0);
    }

    private static void noRing(AntlerYear x, int m) {
        Check.due(x, "ring(" + m + "), none", x.ring(m), -2, 0);
        Check.due(x, "ringAt(" + m + ", 0), none", x.ringAt(m, 0), -1, 1);
        Check.due(x, "ringSum(" + m + "), none", x.ringSum(m), -2, 0);
    }

    private static void base() {
        AntlerYear x = Check.told(Check.BASE);
        ring(x, 0, 8, 0, 2, 3);
        ring(x, 2, 8, 2, 3, 0);
        ring(x, 3, 8, 3, 0, 2);
        noRing(x, 1);
        Check.due(x, "bestRing()", x.bestRing(), 0, 0);
        int[] reach = {13, 13, 13, 13};
        for (int m = 0; m < 4; m++) {
            Check.due(x, "reach(" + m + ")", x.reach(m), reach[m], 0);
        }
        x.spring();
        Check.due("bea is reached a spring on", x.reach(3), 15);
        ring(x, 1, 6, 1, 2, 3, 0);
        Check.due("the ring of four frees as much: the first of the best", x.bestRing(), 0);
        x.spring();
        ring(x, 2, 1, 2, 3);
        ring(x, 3, 1, 3, 2);
        ring(x, 0, 8, 0, 2, 3);
        x.shed(2);
        noRing(x, 0);
        Check.due(x, "bestRing() without rings", x.bestRing(), -2, 0);
        Check.due("reach(2) of nobody", x.reach(2), 0);
        Check.due("reach(0) then", x.reach(0), 6);
        Check.due(x, "ring(4)", x.ring(4), -1, 1);
        Check.due(x, "ringAt(4, 0)", x.ringAt(4, 0), -1, 1);
        Check.due(x, "ringSum(-1)", x.ringSum(-1), -1, 1);
        Check.due(x, "reach(4)", x.reach(4), -1, 1);
    }

    private static void likeRings() {
        AntlerYear x = Check.told(FIVE + "owes a d 5 spring 0;owes a c 7 spring 0;owes c b 7 spring 0;"
            + "owes d e 9 spring 0;owes c e 9 spring 0;owes e a 9 spring 0;owes b a 2 spring 0");
        ring(x, 0, 2, 0, 2, 1);
        ring(x, 4, 7, 4, 0, 2);
        ring(x, 3, 5, 3, 4, 0);
        Check.due("bestRing() is not of the first ring", x.bestRing(), 4);
        AntlerYear shorter = Check.told(FIVE + "owes a b 5 spring 0;owes b c 7 spring 0;owes c a 7 spring 0;"
            + "owes a e 9 spring 0;owes e a 3 spring 0");
        ring(shorter, 0, 3, 0, 4);
        ring(shorter, 1, 5, 1, 2, 0);
        Check.due("bestRing() counts each of the ring", shorter.bestRing(), 1);
        AntlerYear like = Check.told(FIVE + "owes d c 6 spring 0;owes c d 6 spring 0;owes a b 6 spring 0;"
            + "owes b a 6 spring 0");
        Check.due("bestRing() of like ones the first", like.bestRing(), 0);
    }

    private static void longest() {
        AntlerYear x = Check.told(FIVE + "owes a e 5 spring 0;owes e b 7 spring 0;owes b d 7 spring 0;"
            + "owes d c 9 spring 0;owes c a 3 spring 1");
        noRing(x, 0);
        Check.due("reach(0) without the last debt", x.reach(0), 30);
        Check.due("reach(2) without the last debt", x.reach(2), 0);
        x.spring();
        ring(x, 0, 3, 0, 4, 1, 3, 2);
        ring(x, 3, 3, 3, 2, 0, 4, 1);
        Check.due("reach(2) in the ring", x.reach(2), 31);
    }

    private static void sums() {
        AntlerYear x = Check.told(FIVE + "owes a b 5 spring 0;owes a b 6 spring 0;owes a b 50 spring 1;"
            + "owes b a 20 spring 0");
        ring(x, 0, 11, 0, 1);
        x.spring();
        ring(x, 0, 20, 0, 1);
    }

    private static void refusals() {
        AntlerYear x = new AntlerYear();
        Check.due(x, "ring", x.ring(0), -1, 1);
        Check.due(x, "ringAt", x.ringAt(0, 0), -1, 1);
        Check.due(x, "ringSum", x.ringSum(0), -1, 1);
        Check.due(x, "bestRing", x.bestRing(), -1, 1);
        Check.due(x, "reach", x.reach(0), -1, 1);
    }
}
