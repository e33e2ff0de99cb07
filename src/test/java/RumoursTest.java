/** Promises 29 to 36: rumours by readings that may err. */
public final class RumoursTest {
    private RumoursTest() {
    }

    public static void main(String[] args) {
        base();
        unequalOdds();
        noHead();
        certain();
        alwaysErring();
        ownSprings();
        looks();
        noRumours();
        refusals();
        Check.end();
    }

    private static void likely(AntlerYear x, int k, long upper, long lower) {
        Check.due(x, "likely(" + k + ", false)", x.likely(k, false), upper, 0);
        Check.due(x, "likely(" + k + ", true)", x.likely(k, true), lower, 0);
    }

    private static void headIs(AntlerYear x, int m, int head, long upper, long lower) {
        Check.due(x, "headIs(" + m + ", " + head + ", false)", x.headIs(m, head, false), upper, 0);
        Check.due(x, "headIs(" + m + ", " + head + ", true)", x.headIs(m, head, true), lower, 0);
    }

    private static void fits(AntlerYear x, int... sets) {
        Check.due(x, "fits()", x.fits(), sets.length, 0);
        for (int i = 0; i < sets.length; i++) {
            Check.due(x, "fitAt(" + i + ")", x.fitAt(i), sets[i], 0);
        }
        Check.due(x, "fitAt behind the last one", x.fitAt(sets.length), -1, 1);
        Check.due(x, "fitAt ahead of the first one", x.fitAt(-1), -1, 1);
    }

    private static void base() {
        AntlerYear x = Check.told(Check.BASE);
        fits(x, 0, 1);
        likely(x, 0, 1, 2);
        likely(x, 1, 0, 1);
        headIs(x, 0, 3, 1, 2);
        headIs(x, 0, 5, 1, 2);
        headIs(x, 0, 4, 0, 1);
        headIs(x, 2, 4, 1, 1);
        Check.due(x, "likeliest() of like ones the first", x.likeliest(), 0, 0);
        Check.due(x, "look()", x.look(), 0, 0);
        Check.due(x, "lookLeaves()", x.lookLeaves(), 1, 0);
        Check.due(x, "judge()", x.judge(), -2, 0);
        Check.due(x, "likely(2, true)", x.likely(2, true), -1, 1);
        Check.due(x, "likely(-1, true)", x.likely(-1, true), -1, 1);
        Check.due(x, "headIs(4, 0, true)", x.headIs(4, 0, true), -1, 1);
        Check.due(x, "headIs(4, 100, true)", x.headIs(4, 100, true), -1, 1);
        Check.due(x, "headIs(0, 100, true)", x.headIs(0, 100, true), -1, 2);
        Check.due(x, "headIs(0, -1, true)", x.headIs(0, -1, true), -1, 2);
        headIs(x, 0, 99, 0, 1);
        // abe pays nine: his head is 1 or 3 now, and what was read can't be without the rumour.
        Check.due("pays nine", x.pay(0, 9), 3);
        fits(x, 1);
        likely(x, 0, 1, 1);
        Check.due("likeliest() then", x.likeliest(), 1);
        Check.due("judge() then", x.judge(), 0);
    }

    private static void unequalOdds() {
        // Heads 2 or 3; read 3: 30 of 200 without the rumour, 140 of 200 with it.
        String duchy = "duchy tine 1 errs 30 lock 0 moth 0;man a common coins 9 strong 0;man b common coins 0 strong 0;"
            + "owes a b 2 spring 0;rumour a b 1 spring 0";
        AntlerYear x = Check.told(duchy + ";read a 3");
        fits(x, 0, 1);
        likely(x, 0, 14, 17);
        headIs(x, 0, 2, 3, 17);
        headIs(x, 0, 3, 14, 17);
        Check.due("likeliest()", x.likeliest(), 1);
        AntlerYear twice = Check.told(duchy + ";read a 3;read a 2");
        likely(twice, 0, 1, 2);
        AntlerYear thrice = Check.told(duchy + ";read a 3;read a 3;read a 3;read a 4");
        likely(thrice, 0, 1, 1);
        fits(thrice, 1);
        AntlerYear none = Check.told(duchy);
        fits(none, 0, 1);
        likely(none, 0, 1, 2);
        Check.due("likeliest() without readings", none.likeliest(), 0);
    }

    private static void noHead() {
        // No head: an erring reader tells one more, and by all of errs; with the rumour it is half of errs.
        AntlerYear x = Check.told("duchy tine 1 errs 40 lock 0 moth 0;man a common coins 0 strong 0;"
            + "man b common coins 0 strong 0;rumour a b 2 spring 0;read a 1");
        likely(x, 0, 1, 3);
        headIs(x, 0, 0, 2, 3);
        AntlerYear zero = Check.told("duchy tine 1 errs 40 lock 0 moth 0;man a common coins 0 strong 0;"
            + "man b common coins 0 strong 0;rumour a b 1 spring 0;read a 0");
        likely(zero, 0, 1, 4);
        Check.due("judge() of none read of no head", zero.judge(), -2);
        AntlerYear two = Check.told("duchy tine 1 errs 40 lock 0 moth 0;man a common coins 0 strong 0;"
            + "man b common coins 0 strong 0;rumour a b 1 spring 0;read b 1;read a 2");
        likely(two, 0, 1, 1);
        Check.due("judge() of two read of no head", two.judge(), 1);
        AntlerYear lady = Check.told("duchy tine 1 errs 40 lock 0 moth 0;man a lady coins 0 strong 0;"
            + "man b common coins 0 strong 0;rumour a b 1 spring 0;read a 1");
        likely(lady, 0, 1, 2);
        headIs(lady, 0, 0, 1, 1);
    }

    private static void certain() {
        AntlerYear x = Check.told("duchy tine 4 errs 0 lock 0 moth 0;man a duke coins 0 strong 0;"
            + "man b freak coins 0 strong 0;rumour a b 4 spring 0;rumour a b 8 spring 0;rumour a b 12 spring 0;"
            + "rumour b a 3 spring 0;read a 6");
        fits(x, 3, 4, 11, 12);
        likely(x, 0, 1, 2);
        likely(x, 3, 1, 2);
        headIs(x, 0, 6, 1, 1);
        headIs(x, 1, 1, 1, 2);
        Check.due("likeliest()", x.likeliest(), 3);
        Check.due("look() at b", x.look(), 1);
        Check.due("lookLeaves()", x.lookLeaves(), 2);
        Check.due("judge()", x.judge(), 0);
    }

    private static void alwaysErring() {
        AntlerYear x = Check.told("duchy tine 1 errs 100 lock 0 moth 0;man a common coins 0 strong 0;"
            + "man b common coins 0 strong 0;rumour a b 1 spring 0;rumour a b 2 spring 0;read a 2");
        fits(x, 1, 3);
        likely(x, 0, 1, 1);
        likely(x, 1, 1, 2);
        AntlerYear bald = Check.told("duchy tine 1 errs 100 lock 0 moth 0;man a common coins 0 strong 0;read a 0");
        fits(bald);
        Check.due(bald, "likeliest() without fits", bald.likeliest(), -2, 0);
        Check.due(bald, "look() without fits", bald.look(), -2, 0);
        Check.due(bald, "lookLeaves() without fits", bald.lookLeaves(), -2, 0);
        Check.due(bald, "judge() of one who always errs", bald.judge(), 0, 0);
        headIs(bald, 0, 0, 0, 1);
    }

    private static void ownSprings() {
        AntlerYear x = Check.told("duchy tine 1 errs 0 lock 0 moth 0;man a common coins 0 strong 0;"
            + "man b common coins 0 strong 0;rumour a b 3 spring 1;read a 3");
        fits(x);
        likely(x, 0, 0, 1);
        x.spring();
        fits(x, 1);
        likely(x, 0, 1, 1);
        headIs(x, 0, 3, 1, 1);
    }

    private static void looks() {
        AntlerYear x = Check.told("duchy tine 1 errs 50 lock 0 moth 0;man a lady coins 0 strong 0;"
            + "man b common coins 0 strong 0;man c common coins 0 strong 0;rumour a b 1 spring 0;"
            + "rumour b c 1 spring 0;rumour c b 1 spring 0;rumour c a 1 spring 0");
        Check.due("fits() of all sets", x.fits(), 16);
        Check.due("look() of like ones the first", x.look(), 1);
        Check.due("lookLeaves()", x.lookLeaves(), 8);
        AntlerYear best = Check.told("duchy tine 1 errs 50 lock 0 moth 0;man a lady coins 0 strong 0;"
            + "man b common coins 0 strong 0;man c common coins 0 strong 0;rumour a b 1 spring 0;"
            + "rumour b c 1 spring 0;rumour c b 1 spring 0;rumour c a 2 spring 0");
        Check.due("look() at c", best.look(), 2);
        Check.due("lookLeaves() at c", best.lookLeaves(), 4);
    }

    private static void noRumours() {
        AntlerYear x = Check.told("duchy tine 1 errs 0 lock 0 moth 0;man a common coins 0 strong 0;read a 0");
        fits(x, 0);
        Check.due("likeliest() of none", x.likeliest(), 0);
        Check.due("look() of one", x.look(), 0);
        Check.due("lookLeaves() of one", x.lookLeaves(), 1);
        Check.due(x, "likely(0, false) of none", x.likely(0, false), -1, 1);
    }

    private static void refusals() {
        AntlerYear x = new AntlerYear();
        Check.due(x, "fits", x.fits(), -1, 1);
        Check.due(x, "fitAt", x.fitAt(0), -1, 1);
        Check.due(x, "likely", x.likely(0, false), -1, 1);
        Check.due(x, "headIs", x.headIs(0, 0, false), -1, 1);
        Check.due(x, "likeliest", x.likeliest(), -1, 1);
        Check.due(x, "look", x.look(), -1, 1);
        Check.due(x, "lookLeaves", x.lookLeaves(), -1, 1);
        Check.due(x, "judge", x.judge(), -1, 1);
    }
}
