/** Promises 6 to 15: men, debts and doors now, and springs to come. */
public final class NowTest {
    private NowTest() {
    }

    public static void main(String[] args) {
        men();
        debts();
        doors();
        heads();
        springs();
        refusals();
        Check.end();
    }

    private static void row(AntlerYear x, int m, int... facts) {
        for (int what = 0; what < facts.length; what++) {
            Check.due(x, "man(" + m + ", " + what + ")", x.man(m, what), facts[what], 0);
        }
    }

    private static void men() {
        AntlerYear x = Check.told(Check.BASE);
        row(x, 0, 0, 9, 4, 3, 3, 12, 11, 4);
        row(x, 1, 1, 30, 2, 0, 4, 20, 0, 4);
        row(x, 2, 2, 40, 6, 4, 2, 8, 32, 8);
        row(x, 3, 3, 3, 4, 2, 3, 11, 8, 1);
        x.spring();
        row(x, 0, 0, 9, 4, 5, 5, 18, 11, 6);
        row(x, 1, 1, 30, 2, 0, 4, 20, 6, 4);
        x.spring();
        row(x, 3, 3, 3, 4, 2, 4, 12, 8, 5);
        x.pay(5, 1);
        row(x, 3, 3, 2, 4, 2, 3, 11, 8, 1);
        row(x, 2, 2, 41, 6, 4, 2, 8, 32, 8);
        Check.due(x, "man(4, 0)", x.man(4, 0), -1, 1);
        Check.due(x, "man(-1, 0)", x.man(-1, 0), -1, 1);
        Check.due(x, "man(0, 8)", x.man(0, 8), -1, 1);
        Check.due(x, "man(0, -1)", x.man(0, -1), -1, 1);
    }

    private static void debts() {
        AntlerYear x = Check.told(Check.BASE);
        int[][] want = {{0, 2, 12, 0, 1, 3}, {0, 1, 6, 1, 0, 0}, {2, 3, 8, 0, 1, 2}, {3, 0, 11, 0, 1, 3},
            {1, 2, 20, 0, 1, 4}, {3, 2, 1, 2, 0, 0}};
        for (int k = 0; k < want.length; k++) {
            for (int what = 0; what < 6; what++) {
                Check.due(x, "debt(" + k + ", " + what + ")", x.debt(k, what), want[k][what], 0);
            }
        }
        Check.due(x, "debt(6, 0)", x.debt(6, 0), -1, 1);
        Check.due(x, "debt(-1, 0)", x.debt(-1, 0), -1, 1);
        Check.due(x, "debt(0, 6)", x.debt(0, 6), -1, 1);
        Check.due(x, "debt(0, -1)", x.debt(0, -1), -1, 1);
        x.spring();
        Check.due("debt 1 is due in its spring", x.debt(1, 4), 1);
        Check.due("tines of debt 1 in its spring", x.debt(1, 5), 2);
        x.shed(0);
        Check.due("a debt with nothing left stands", x.debt(0, 0), 0);
        Check.due("nothing is left", x.debt(0, 2), 0);
        Check.due("it isn't due", x.debt(0, 4), 0);
        Check.due("it has no tines", x.debt(0, 5), 0);
        Check.due("debts are as many", x.size(5), 6);
    }

    private static void doors() {
        AntlerYear x = Check.told(Check.BASE);
        int[][] want = {{6, 15, 4}, {2, 10, 1}, {0, 2, 8}};
        for (int d = 0; d < want.length; d++) {
            for (int what = 0; what < 3; what++) {
                Check.due(x, "door(" + d + ", " + what + ")", x.door(d, what), want[d][what], 0);
            }
        }
        Check.due(x, "door(3, 0)", x.door(3, 0), -1, 1);
        Check.due(x, "door(-1, 0)", x.door(-1, 0), -1, 1);
        Check.due(x, "door(0, 3)", x.door(0, 3), -1, 1);
        Check.due(x, "door(0, -1)", x.door(0, -1), -1, 1);
        x.pay(0, 2);
        Check.due("abe passes the low door by two coins", x.door(1, 1), 11);
    }

    private static void heads() {
        AntlerYear x = Check.told(Check.BASE);
        Check.due(x, "heads()", x.heads(), 9, 0);
        Check.due(x, "greatest()", x.greatest(), 2, 0);
        Check.due(x, "bald()", x.bald(), 2, 0);
        x.spring();
        Check.due("greatest() a spring on", x.greatest(), 0);
        x.shed(2);
        Check.due("bald() behind shed", x.bald(), 6);
        AntlerYear like = Check.told("duchy tine 3 errs 0 lock 0 moth 0;man a lady coins 0 strong 0;"
            + "man b common coins 0 strong 0;man c freak coins 0 strong 0;owes b a 4 spring 0;owes c a 9 spring 0;"
            + "owes a b 99 spring 0");
        Check.due("greatest() of like ones the first", like.greatest(), 1);
        Check.due("heads() with a lady", like.heads(), 4);
        AntlerYear bare = Check.told("duchy tine 3 errs 0 lock 0 moth 0;man a duke coins 0 strong 0");
        Check.due("greatest() of none", bare.greatest(), 0);
        Check.due("bald() of all", bare.bald(), 1);
        Check.due(bare, "heads() of none", bare.heads(), 0, 0);
    }

    private static void springs() {
        AntlerYear x = Check.told(Check.BASE);
        Check.due(x, "headIn(0, 0)", x.headIn(0, 0), 3, 0);
        Check.due("headIn(0, 1)", x.headIn(0, 1), 5);
        Check.due("headIn(0, 20)", x.headIn(0, 20), 5);
        Check.due("headIn(3, 2)", x.headIn(3, 2), 2);
        Check.due("headIn(1, 20)", x.headIn(1, 20), 0);
        Check.due(x, "headIn(0, 21)", x.headIn(0, 21), -1, 2);
        Check.due(x, "headIn(0, -1)", x.headIn(0, -1), -1, 2);
        Check.due(x, "headIn(4, 21)", x.headIn(4, 21), -1, 1);
        Check.due(x, "when(0, 3)", x.when(0, 3), 0, 0);
        Check.due(x, "when(0, 4)", x.when(0, 4), 1, 0);
        Check.due(x, "when(0, 5)", x.when(0, 5), 1, 0);
        Check.due(x, "when(0, 6)", x.when(0, 6), -2, 0);
        Check.due(x, "when(0, 99)", x.when(0, 99), -2, 0);
        Check.due(x, "when(0, 100)", x.when(0, 100), -1, 2);
        Check.due(x, "when(0, -1)", x.when(0, -1), -1, 2);
        Check.due(x, "when(-1, -1)", x.when(-1, -1), -1, 1);
        Check.due(x, "worstSpring()", x.worstSpring(), 1, 0);
        Check.due(x, "shutIn(0, 0)", x.shutIn(0, 0), -2, 0);
        Check.due(x, "shutIn(0, 1)", x.shutIn(0, 1), 0, 0);
        Check.due(x, "shutIn(3, 1)", x.shutIn(3, 1), -2, 0);
        Check.due(x, "shutIn(4, 1)", x.shutIn(4, 1), -1, 1);
        Check.due(x, "shutIn(0, 3)", x.shutIn(0, 3), -1, 1);
        x.spring();
        Check.due("when counts from now", x.when(0, 4), 0);
        Check.due("worstSpring counts from now", x.worstSpring(), 0);
        AntlerYear late = Check.told("duchy tine 20 errs 0 lock 0 moth 0;man a duke coins 0 strong 0;"
            + "man b lady coins 0 strong 0;owes a b 21 spring 9;owes a b 1 spring 4;door d wide 2;door e wide 6");
        Check.due("when in nine springs", late.when(0, 3), 9);
        Check.due("when in four springs", late.when(0, 1), 4);
        Check.due("shut in nine springs", late.shutIn(0, 0), 9);
        Check.due("never shut", late.shutIn(0, 1), -2);
        Check.due("the worst spring", late.worstSpring(), 9);
        Check.due("head in eight", late.headIn(0, 8), 2);
        Check.due("head in nine", late.headIn(0, 9), 6);
    }

    private static void refusals() {
        AntlerYear x = new AntlerYear();
        Check.due(x, "man", x.man(0, 0), -1, 1);
        Check.due(x, "debt", x.debt(0, 0), -1, 1);
        Check.due(x, "door", x.door(0, 0), -1, 1);
        Check.due(x, "heads", x.heads(), -1, 1);
        Check.due(x, "greatest", x.greatest(), -1, 1);
        Check.due(x, "bald", x.bald(), -1, 1);
        Check.due(x, "headIn", x.headIn(0, 99), -1, 1);
        Check.due(x, "when", x.when(0, 0), -1, 1);
        Check.due(x, "worstSpring", x.worstSpring(), -1, 1);
        Check.due(x, "shutIn", x.shutIn(0, 0), -1, 1);
    }
}
