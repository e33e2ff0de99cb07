/** Promises 16 to 23: what passing costs, and most guests. */
public final class DoorsTest {
    private DoorsTest() {
    }

    public static void main(String[] args) {
        tolls();
        tollsOfManyDebts();
        invited();
        cheapest();
        widths();
        guests();
        refusals();
        Check.end();
    }

    private static void tolls() {
        AntlerYear x = Check.told(Check.BASE);
        int[][] want = {{0, 2, -2}, {0, 0, 0}, {0, 3, 8}, {0, 0, -2}};
        for (int m = 0; m < 4; m++) {
            for (int d = 0; d < 3; d++) {
                Check.due(x, "payFor(" + m + ", " + d + ")", x.payFor(m, d), want[m][d], 0);
            }
        }
        Check.due(x, "payFor(4, 0)", x.payFor(4, 0), -1, 1);
        Check.due(x, "payFor(0, 3)", x.payFor(0, 3), -1, 1);
        Check.due(x, "payFor(0, -1)", x.payFor(0, -1), -1, 1);
        Check.due(x, "payFor(-1, 0)", x.payFor(-1, 0), -1, 1);
    }

    private static void tollsOfManyDebts() {
        // Tines cost 4 then 10, 10 then 10, 1 then 10, and one debt is not due yet.
        AntlerYear x = Check.told("duchy tine 10 errs 0 lock 0 moth 0;man a common coins 25 strong 0;"
            + "man b lady coins 0 strong 0;owes a b 14 spring 0;owes a b 20 spring 0;owes a b 11 spring 0;"
            + "owes a b 1 spring 1;door d wide 5;door e wide 4;door f wide 3;door g wide 2");
        Check.due("toll of one tine", x.payFor(0, 0), 1);
        Check.due("toll of two", x.payFor(0, 1), 5);
        Check.due("toll of three", x.payFor(0, 2), 15);
        Check.due("toll of four, with just as many coins", x.payFor(0, 3), 25);
        x.pay(2, 1);
        Check.due("toll of three with a coin less", x.payFor(0, 3), 24);
        x.spring();
        Check.due("toll with another debt due: a coin more", x.payFor(0, 3), -2);
        Check.due("and at the wider door", x.payFor(0, 0), 1);
        AntlerYear freak = Check.told("duchy tine 10 errs 0 lock 0 moth 0;man a freak coins 99 strong 0;"
            + "man b duke coins 99 strong 0;owes a b 71 spring 0;owes b a 71 spring 0;door d wide 3;door e wide 2;"
            + "door f wide 0");
        Check.due("a freak's toll", freak.payFor(0, 0), 11);
        Check.due("a freak's greater toll", freak.payFor(0, 1), 31);
        Check.due("a freak's whole toll", freak.payFor(0, 2), 71);
        Check.due("a duke's toll", freak.payFor(1, 0), 61);
        Check.due("a duke's like toll", freak.payFor(1, 1), 61);
        Check.due("a duke's whole toll", freak.payFor(1, 2), 71);
    }

    private static void invited() {
        AntlerYear x = Check.told(Check.BASE);
        Check.due(x, "payAll()", x.payAll(), -2, 0);
        Check.due(x, "passers()", x.passers(), 4, 0);
        Check.due(x, "shamed()", x.shamed(), 8, 0);
        x.shed(3);
        Check.due(x, "payAll() without dov's debts", x.payAll(), 2, 0);
        Check.due(x, "passers() then", x.passers(), 12, 0);
        Check.due(x, "shamed() then", x.shamed(), 0, 0);
        x.spring();
        Check.due("payAll() a spring on: 2 and 1 and 5", x.payAll(), 8);
        x.pay(0, 1);
        x.pay(0, 1);
        Check.due("payAll() with 7 coins: 1 and 5", x.payAll(), 6);
        AntlerYear none = Check.told("duchy tine 1 errs 0 lock 0 moth 0;man a duke coins 0 strong 0;door d wide 0");
        Check.due(none, "payAll() of none invited", none.payAll(), 0, 0);
        Check.due(none, "passers() of none invited", none.passers(), 0, 0);
        Check.due(none, "shamed() of none invited", none.shamed(), 0, 0);
        AntlerYear together = Check.told("duchy tine 1 errs 0 lock 0 moth 0;man a duke coins 9 strong 0;"
            + "man b common coins 9 strong 0;owes a b 5 spring 0;owes b a 9 spring 0;door d wide 4;"
            + "invited a d;invited b d");
        Check.due("payAll() through one door", together.payAll(), 3 + 5);
        Check.due("both are invited", together.door(0, 2), 3);
    }

    private static void cheapest() {
        AntlerYear x = Check.told(Check.BASE);
        Check.due(x, "cheapest(0)", x.cheapest(0), 0, 0);
        Check.due(x, "cheapest(1)", x.cheapest(1), 4, 0);
        Check.due(x, "cheapest(3)", x.cheapest(3), 3, 0);
        x.spring();
        Check.due("cheapest(0) with the debt of 6", x.cheapest(0), 1);
        x.spring();
        Check.due("cheapest(3) of like ones the first", x.cheapest(3), 3);
        x.shed(3);
        Check.due(x, "cheapest(3) without any", x.cheapest(3), -2, 0);
        Check.due(x, "cheapest(4)", x.cheapest(4), -1, 1);
        Check.due(x, "cheapest(-1)", x.cheapest(-1), -1, 1);
        AntlerYear whole = Check.told("duchy tine 5 errs 0 lock 0 moth 0;man a duke coins 0 strong 0;"
            + "man b lady coins 0 strong 0;owes a b 5 spring 0;owes a b 9 spring 0;owes a b 4 spring 0");
        Check.due("a whole tine costs five", whole.cheapest(0), 1);
    }

    private static void widths() {
        AntlerYear x = Check.told(Check.BASE);
        int[] want = {0, 0, 2, 3, 4};
        for (int men = 0; men < want.length; men++) {
            Check.due(x, "widthFor(" + men + ")", x.widthFor(men), want[men], 0);
        }
        Check.due(x, "widthFor(5)", x.widthFor(5), -1, 2);
        Check.due(x, "widthFor(-1)", x.widthFor(-1), -1, 2);
        AntlerYear wide = Check.told("duchy tine 1 errs 0 lock 0 moth 0;man a duke coins 0 strong 0;"
            + "man b duke coins 0 strong 0;owes a b 99 spring 0;owes b a 99 spring 0");
        Check.due("a width for none", wide.widthFor(0), 0);
        Check.due("a width beyond all doors", wide.widthFor(1), 198);
        Check.due("a width of like ones", wide.widthFor(2), 198);
    }

    private static void rows(AntlerYear x, String what, int guests, int... doors) {
        Check.due(x, what, x.guests(), guests, 0);
        for (int m = 0; m < doors.length; m++) {
            Check.due(x, what + ": doorOf(" + m + ")", x.doorOf(m), doors[m], 0);
        }
    }

    private static void guests() {
        AntlerYear x = Check.told(Check.BASE);
        rows(x, "guests()", 3, 0, 2, -2, 1);
        Check.due(x, "doorOf(4)", x.doorOf(4), -1, 1);
        Check.due(x, "doorOf(-1)", x.doorOf(-1), -1, 1);
        String men = "duchy tine 1 errs 0 lock 0 moth 0;man a common coins 0 strong 0;man b common coins 0 strong 0;"
            + "man c common coins 0 strong 0;man d common coins 0 strong 0;man e common coins 0 strong 0;";
        rows(Check.told(men + "door p wide 0;door q wide 0"), "more men than doors", 2, 0, 1, -2, -2, -2);
        rows(Check.told(men + "door p wide 0;door q wide 0;door r wide 0;door s wide 0"), "all doors", 4, 0, 1, 2, 3, -2);
        rows(Check.told(men + "owes a b 3 spring 0;owes b a 3 spring 0;door p wide 5;door q wide 2"),
            "the first man has the wide door", 2, 0, -2, 1, -2, -2);
        rows(Check.told(men + "owes d a 3 spring 0;owes e a 3 spring 0;door p wide 9;door q wide 2"),
            "like rows", 2, 0, 1, -2, -2, -2);
        rows(Check.told(men + "owes a b 9 spring 0;owes b a 9 spring 0;owes c a 9 spring 0;owes d a 9 spring 0;"
            + "owes e a 9 spring 0;door p wide 8;door q wide 9"), "one wide door", 1, 1, -2, -2, -2, -2);
        rows(Check.told(men + "read a 0"), "no doors", 0, -2, -2, -2, -2, -2);
        rows(Check.told(men + "owes b a 2 spring 0;owes c a 1 spring 0;owes d a 3 spring 0;owes e a 3 spring 0;"
            + "door p wide 2;door q wide 1;door r wide 0"), "each his own", 3, 2, 0, 1, -2, -2);
    }

    private static void refusals() {
        AntlerYear x = new AntlerYear();
        Check.due(x, "payFor", x.payFor(0, 0), -1, 1);
        Check.due(x, "payAll", x.payAll(), -1, 1);
        Check.due(x, "passers", x.passers(), -1, 1);
        Check.due(x, "shamed", x.shamed(), -1, 1);
        Check.due(x, "cheapest", x.cheapest(0), -1, 1);
        Check.due(x, "widthFor", x.widthFor(-5), -1, 1);
        Check.due(x, "guests", x.guests(), -1, 1);
        Check.due(x, "doorOf", x.doorOf(0), -1, 1);
    }
}
