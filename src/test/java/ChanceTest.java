/** Promises 37 to 43: two who dispute, locked pairs, moths. */
public final class ChanceTest {
    private ChanceTest() {
    }

    public static void main(String[] args) {
        duels();
        rests();
        locked();
        moths();
        refusals();
        Check.end();
    }

    private static void duel(AntlerYear x, int m, int other, int sum, int... want) {
        for (int i = 0; i < 8; i++) {
            boolean fights = (i & 4) != 0;
            boolean others = (i & 2) != 0;
            boolean ofOther = (i & 1) != 0;
            Check.due(x, "duel(" + m + ", " + other + ", " + sum + ", " + fights + ", " + others + ", " + ofOther + ")",
                x.duel(m, other, sum, fights, others, ofOther), want[i], 0);
        }
    }

    private static void duels() {
        AntlerYear x = Check.told(Check.BASE);
        duel(x, 0, 2, 10, 5, 5, 0, 10, 10, 0, -3, 7);
        duel(x, 2, 0, 9, 4, 4, 0, 9, 9, 0, 6, -3);
        duel(x, 0, 3, 99, 49, 49, 0, 99, 99, 0, -3, -3);
        duel(x, 0, 1, 0, 0, 0, 0, 0, 0, 0, -3, -3);
        duel(x, 0, 1, 1, 0, 0, 0, 1, 1, 0, -2, -3);
        Check.due(x, "duel of one", x.duel(1, 1, 0, true, true, true), -100, 1);
        Check.due(x, "duel(4, 1, ..)", x.duel(4, 1, 0, true, true, true), -100, 1);
        Check.due(x, "duel(1, -1, ..)", x.duel(1, -1, 0, true, true, true), -100, 1);
        Check.due(x, "duel(1, 4, 100, ..)", x.duel(1, 4, 100, true, true, true), -100, 1);
        Check.due(x, "duel(1, 2, 100, ..)", x.duel(1, 2, 100, true, true, true), -100, 2);
        Check.due(x, "duel(1, 2, -1, ..)", x.duel(1, 2, -1, true, true, true), -100, 2);
    }

    private static void rest(AntlerYear x, int m, int other, int sum, int count, int first) {
        Check.due(x, "rests(" + m + ", " + other + ", " + sum + ")", x.rests(m, other, sum), count, 0);
        Check.due(x, "rest(" + m + ", " + other + ", " + sum + ")", x.rest(m, other, sum), first, 0);
    }

    private static void rests() {
        AntlerYear x = Check.told(Check.BASE);
        rest(x, 0, 2, 10, 1, 1);
        rest(x, 2, 0, 10, 1, 10);
        rest(x, 0, 3, 10, 2, 1);
        rest(x, 0, 3, 0, 3, 0);
        rest(x, 0, 2, 0, 3, 0);
        rest(x, 0, 2, 1, 2, 1);
        rest(x, 0, 2, 3, 2, 1);
        rest(x, 2, 0, 3, 2, 1);
        rest(x, 0, 2, 4, 1, 1);
        rest(x, 2, 0, 4, 1, 10);
        rest(x, 2, 0, 99, 1, 10);
        Check.due(x, "rests of one", x.rests(1, 1, 0), -1, 1);
        Check.due(x, "rest of one", x.rest(1, 1, 0), -1, 1);
        Check.due(x, "rests(0, 4, 0)", x.rests(0, 4, 0), -1, 1);
        Check.due(x, "rest(0, 4, 100)", x.rest(0, 4, 100), -1, 1);
        Check.due(x, "rests(0, 1, 100)", x.rests(0, 1, 100), -1, 2);
        Check.due(x, "rest(0, 1, -1)", x.rest(0, 1, -1), -1, 2);
    }

    private static void lock(int lock, int n, long[] want) {
        AntlerYear x = Check.told("duchy tine 1 errs 0 lock " + lock + " moth 0;man a common coins 0 strong 0");
        Check.due(x, "locked(" + n + ", false) by " + lock, x.locked(n, false), want[0], 0);
        Check.due(x, "locked(" + n + ", true) by " + lock, x.locked(n, true), want[1], 0);
        Check.due(x, "weeks(" + n + ", false) by " + lock, x.weeks(n, false), want[2], 0);
        Check.due(x, "weeks(" + n + ", true) by " + lock, x.weeks(n, true), want[3], 0);
        Check.due(x, "locked(9)", x.locked(9, false), -1, 2);
        Check.due(x, "locked(-1)", x.locked(-1, true), -1, 2);
        Check.due(x, "weeks(9)", x.weeks(9, false), -1, 2);
        Check.due(x, "weeks(-1)", x.weeks(-1, true), -1, 2);
    }

    private static void locked() {
        lock(50, 0, new long[] {1, 1, 0, 1});
        lock(50, 3, new long[] {1, 8, 7, 8});
        lock(30, 2, new long[] {9, 100, 39, 100});
        lock(30, 8, new long[] {6561, 100000000, 42854331, 100000000});
        lock(99, 8, new long[] {9227446944279201L, 10000000000000000L, 76482752516359101L, 10000000000000000L});
        lock(0, 4, new long[] {0, 1, 0, 1});
        lock(0, 0, new long[] {1, 1, 0, 1});
        lock(100, 8, new long[] {1, 1, 8, 1});
    }

    private static void flight(AntlerYear x, int seed, int n, int eaten, int... heads) {
        Check.due(x, "eaten(" + seed + ", " + n + ")", x.eaten(seed, n), eaten, 0);
        for (int m = 0; m < heads.length; m++) {
            Check.due(x, "moths(" + m + ", " + seed + ", " + n + ")", x.moths(m, seed, n), heads[m], 0);
        }
    }

    private static void moths() {
        AntlerYear x = Check.told(Check.BASE);
        flight(x, 0, 0, 0, 3, 0, 4, 2);
        // Draws from 0 on: 74, 24, 52 in the first spring; 90, 41, 9 in the second one.
        flight(x, 0, 1, 5, 5, 0, 2, 2);
        flight(x, 0, 2, 13, 5, 0, 0, 2);
        Check.due("nothing is changed by it", x.heads(), 9);
        Check.due(x, "moths(4, 0, 0)", x.moths(4, 0, 0), -1, 1);
        Check.due(x, "moths(4, -1, 0)", x.moths(4, -1, 0), -1, 1);
        Check.due(x, "moths(0, -1, 0)", x.moths(0, -1, 0), -1, 2);
        Check.due(x, "moths(0, 65537, 0)", x.moths(0, 65537, 0), -1, 2);
        Check.due(x, "moths(0, 65536, 0)", x.moths(0, 65536, 0), 3, 0);
        Check.due(x, "moths(0, 0, 21)", x.moths(0, 0, 21), -1, 2);
        Check.due(x, "moths(0, 0, -1)", x.moths(0, 0, -1), -1, 2);
        Check.due(x, "eaten(65537, 0)", x.eaten(65537, 0), -1, 2);
        Check.due(x, "eaten(-1, 0)", x.eaten(-1, 0), -1, 2);
        Check.due(x, "eaten(0, 21)", x.eaten(0, 21), -1, 2);
        Check.due(x, "eaten(0, -1)", x.eaten(0, -1), -1, 2);
        AntlerYear all = Check.told("duchy tine 4 errs 0 lock 0 moth 100;man a common coins 0 strong 0;"
            + "man b lady coins 0 strong 0;owes a b 9 spring 0;owes b a 9 spring 0;owes a b 3 spring 3");
        flight(all, 5, 1, 4, 2, 0);
        flight(all, 5, 2, 8, 1, 0);
        flight(all, 5, 3, 9, 1, 0);
        flight(all, 5, 4, 12, 0, 0);
        flight(all, 5, 20, 12, 0, 0);
        AntlerYear never = Check.told("duchy tine 4 errs 0 lock 0 moth 0;man a common coins 0 strong 0;"
            + "man b lady coins 0 strong 0;owes a b 9 spring 0");
        flight(never, 5, 20, 0, 3, 0);
        // From 1 on the draw is 149: its 49 is below 50, but not below 49.
        String brink = "man a common coins 0 strong 0;man b lady coins 0 strong 0;owes a b 1 spring 0";
        flight(Check.told("duchy tine 1 errs 0 lock 0 moth 50;" + brink), 1, 1, 1, 0, 0);
        flight(Check.told("duchy tine 1 errs 0 lock 0 moth 49;" + brink), 1, 1, 0, 1, 0);
    }

    private static void refusals() {
        AntlerYear x = new AntlerYear();
        Check.due(x, "duel", x.duel(0, 1, 0, true, true, true), -100, 1);
        Check.due(x, "rests", x.rests(0, 1, 0), -1, 1);
        Check.due(x, "rest", x.rest(0, 1, 0), -1, 1);
        Check.due(x, "locked", x.locked(-1, true), -1, 1);
        Check.due(x, "weeks", x.weeks(-1, true), -1, 1);
        Check.due(x, "moths", x.moths(0, 0, 0), -1, 1);
        Check.due(x, "eaten", x.eaten(-1, 0), -1, 1);
    }
}
