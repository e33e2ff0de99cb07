/** The edges of promises 37 to 43: two who dispute, locked pairs, moths. */
final class ChanceEdges {
    /** Strengths: least, greatest, greatest, one less. */
    private static final String FOUR = Texts.PLAIN + Texts.men("common 0 0", "lady 0 9", "duke 0 9", "freak 0 8");

    private ChanceEdges() {
    }

    static void run() {
        shares();
        duel();
        pairsAtRest();
        rests();
        rest();
        stayLocked();
        locked();
        weeks();
        mothsByDraws();
        mothsFirstDebt();
        seeds();
        moths();
        eaten();
    }

    /** What each of two has, by both who yield, the other who fights, the first who fights, both who fight. */
    private static void two(int m, int other, int sum, int... pairs) {
        Run run = Run.told(FOUR);
        for (int i = 0; i < 8; i++) {
            String way = (i & 4) != 0 ? ", true" : ", false";
            way += (i & 2) != 0 ? ", true" : ", false";
            way += (i & 1) != 0 ? ", true)" : ", false)";
            run.tells("duel(" + m + ", " + other + ", " + sum + way, pairs[i]);
        }
    }

    private static void shares() {
        Doc.says("Terms III", "TWO men dispute a sum, each fights or yields: both yield: half of it each (downwards); "
            + "one fights: he has it, the other one nothing; both: the stronger one has it less 3, "
            + "the other one loses 3; as strong: each loses 3.");
        two(3, 1, 0, 0, 0, 0, 0, 0, 0, -3, -3);
        two(3, 1, 1, 0, 0, 0, 1, 1, 0, -3, -2);
        two(3, 1, 2, 1, 1, 0, 2, 2, 0, -3, -1);
        two(1, 3, 3, 1, 1, 0, 3, 3, 0, 0, -3);
        two(1, 3, 4, 2, 2, 0, 4, 4, 0, 1, -3);
        two(1, 0, 98, 49, 49, 0, 98, 98, 0, 95, -3);
        two(1, 0, 99, 49, 49, 0, 99, 99, 0, 96, -3);
        two(1, 2, 99, 49, 49, 0, 99, 99, 0, -3, -3);
        two(2, 1, 0, 0, 0, 0, 0, 0, 0, -3, -3);
    }

    private static void duel() {
        Doc.says("Promise 37", "What the first man (or ofOther, the other one) has of a sum (0 .. 99), "
            + "if each fights or yields.");
        Run.told(FOUR).tells("duel(0, 3, 0, true, true, false)", -3).tells("duel(0, 3, 99, true, true, true)", 96)
            .tells("duel(3, 0, 99, false, true, true)", 99).tells("duel(3, 0, 99, false, true, false)", 0);
        Doc.says("Promise 37", "-100: 1 (unlike); 2.");
        for (String way : new String[] {", false, false, false)", ", true, false, true)"}) {
            Run.told(FOUR).refusesBeyond("duel(#, 1, 0" + way, 0, 3, -100, 1)
                .refusesBeyond("duel(1, #, 0" + way, 0, 3, -100, 1).refusesBeyond("duel(0, 1, #" + way, 0, 99, -100, 2);
            Run.told(FOUR).refuses("duel(0, 0, 0" + way, -100, 1).refuses("duel(3, 3, 99" + way, -100, 1)
                .refuses("duel(3, 3, 100" + way, -100, 1).refuses("duel(0, 4, -1" + way, -100, 1);
        }
    }

    private static void pairsAtRest() {
        Doc.says("Terms III", "REST: a pair by which neither could have more alone.");
        // Three coins are the least that repay a fight: then neither has more by it, and by four one has.
        int[][] stronger = {{0, 3, 0}, {1, 2, 1}, {2, 2, 1}, {3, 2, 1}, {4, 1, 10}, {5, 1, 10}, {99, 1, 10}};
        for (int[] row : stronger) {
            Run.told(FOUR).tells("rests(1, 3, " + row[0] + ")", row[1]).tells("rest(1, 3, " + row[0] + ")", row[2]);
        }
        int[][] weaker = {{0, 3, 0}, {1, 2, 1}, {3, 2, 1}, {4, 1, 1}, {99, 1, 1}};
        for (int[] row : weaker) {
            Run.told(FOUR).tells("rests(3, 2, " + row[0] + ")", row[1]).tells("rest(3, 2, " + row[0] + ")", row[2]);
        }
        int[][] like = {{0, 3, 0}, {1, 2, 1}, {3, 2, 1}, {4, 2, 1}, {99, 2, 1}};
        for (int[] row : like) {
            Run.told(FOUR).tells("rests(1, 2, " + row[0] + ")", row[1]).tells("rest(2, 1, " + row[0] + ")", row[2]);
        }
    }

    private static void rests() {
        Doc.says("Promise 38", "How many RESTS.");
        Run.told(FOUR).tells("rests(0, 1, 0)", 3).tells("rests(0, 1, 99)", 1);
        Doc.says("Promise 38", "NONE: 1 (unlike); 2.");
        refusedPairs("rests");
    }

    private static void refusedPairs(String name) {
        Run.told(FOUR).refusesBeyond(name + "(#, 1, 0)", 0, 3, -1, 1).refusesBeyond(name + "(1, #, 0)", 0, 3, -1, 1)
            .refusesBeyond(name + "(0, 1, #)", 0, 99, -1, 2);
        Run.told(FOUR).refuses(name + "(0, 0, 0)", -1, 1).refuses(name + "(3, 3, 99)", -1, 1)
            .refuses(name + "(3, 3, 100)", -1, 1).refuses(name + "(4, 0, -1)", -1, 1);
        Run.told(Texts.PLAIN + Texts.commons(1)).refuses(name + "(0, 1, 0)", -1, 1).refuses(name + "(0, 0, 0)", -1, 1);
    }

    private static void rest() {
        Doc.says("Promise 39", "The first (yielding ahead, the first man's first): 10 if the first one fights, "
            + "and 1 if the other one does; -2.");
        Run.told(FOUR).tells("rest(0, 1, 0)", 0).tells("rest(1, 2, 1)", 1).tells("rest(1, 0, 4)", 10)
            .tells("rest(0, 1, 4)", 1);
        // A stronger one who fights, and one who yields to him, always are at rest: -2 never is the answer.
        for (int sum = 0; sum <= 99; sum++) {
            Run.told(FOUR).asks("rest(1, 0, " + sum + ")", sum == 0 ? 0 : sum < 4 ? 1 : 10)
                .asks("rest(0, 1, " + sum + ")", sum == 0 ? 0 : 1).asks("rest(1, 2, " + sum + ")", sum == 0 ? 0 : 1);
        }
        Doc.says("Promise 39", "NONE: likewise.");
        refusedPairs("rest");
    }

    private static void lock(int lock, String call, long upper, long lower) {
        Run.told(Texts.duchy(1, 0, lock, 0) + Texts.commons(1)).tells(call + ", false)", upper)
            .tells(call + ", true)", lower);
    }

    private static void stayLocked() {
        Doc.says("Terms III", "LOCKED ones stay so each week by lock, as likely as told.");
        for (int n = 0; n <= 8; n++) {
            lock(100, "locked(" + n, 1, 1);
            lock(100, "weeks(" + n, n, 1);
            lock(50, "locked(" + n, 1, 1L << n);
            lock(50, "weeks(" + n, (1L << n) - 1, 1L << n);
            lock(0, "locked(" + n, n == 0 ? 1 : 0, 1);
            lock(0, "weeks(" + n, 0, 1);
        }
    }

    private static void locked() {
        Doc.says("Promise 40", "How likely LOCKED ones are still so behind n weeks (0 .. 8), "
            + "the upper WHOLE or the lower, likewise.");
        lock(1, "locked(0", 1, 1);
        lock(1, "locked(1", 1, 100);
        lock(1, "locked(8", 1, 10000000000000000L);
        lock(99, "locked(8", 9227446944279201L, 10000000000000000L);
        lock(30, "locked(8", 6561, 100000000);
        lock(2, "locked(4", 1, 6250000);
        Doc.says("Promise 40", "-1: 1 (no DUCHY); 2.");
        refusedWeeks("locked");
    }

    private static void refusedWeeks(String name) {
        for (String half : new String[] {", false)", ", true)"}) {
            Run.told(Check.BASE).refusesBeyond(name + "(#" + half, 0, 8, -1, 2);
            new Run().refuses(name + "(0" + half, -1, 1).refuses(name + "(8" + half, -1, 1)
                .refuses(name + "(9" + half, -1, 1).refuses(name + "(-1" + half, -1, 1);
        }
    }

    private static void weeks() {
        Doc.says("Promise 41", "The mean of weeks (of n, 0 .. 8) behind which they are, likewise.");
        lock(1, "weeks(0", 0, 1);
        lock(1, "weeks(1", 1, 100);
        lock(1, "weeks(8", 101010101010101L, 10000000000000000L);
        lock(99, "weeks(8", 76482752516359101L, 10000000000000000L);
        lock(30, "weeks(2", 39, 100);
        lock(30, "weeks(8", 42854331, 100000000);
        Doc.says("Promise 41", "-1: likewise.");
        refusedWeeks("weeks");
    }

    /** Men who owe a coin each, a tine a coin: their HEADS behind one spring. */
    private static void spring(int moth, String[] kinds, int seed, int... heads) {
        StringBuilder text = new StringBuilder(Texts.duchy(1, 0, 0, moth) + Texts.men(kinds));
        for (int m = 0; m < kinds.length; m++) {
            text.append(Texts.owes("abcde".charAt(m) + (m == 0 ? " b" : " a") + " 1 0"));
        }
        Run run = Run.told(text.toString());
        for (int m = 0; m < heads.length; m++) {
            run.tells("moths(" + m + ", " + seed + ", 1)", heads[m]);
        }
    }

    private static void mothsByDraws() {
        Doc.says("Terms III", "MOTHS by a SEED: behind each spring to come, for each man with a HEAD, by numbers, "
            + "a DRAW mod 100: below moth");
        // From 0 on: 74, 24, 52, 90, 41.
        String[] five = {"common 0 0", "common 0 0", "freak 0 0", "common 0 0", "common 0 0"};
        spring(0, five, 0, 1, 1, 1, 1, 1);
        spring(24, five, 0, 1, 1, 1, 1, 1);
        spring(25, five, 0, 1, 0, 1, 1, 1);
        spring(41, five, 0, 1, 0, 1, 1, 1);
        spring(42, five, 0, 1, 0, 1, 1, 0);
        spring(53, five, 0, 1, 0, 0, 1, 0);
        spring(74, five, 0, 1, 0, 0, 1, 0);
        spring(75, five, 0, 0, 0, 0, 1, 0);
        spring(90, five, 0, 0, 0, 0, 1, 0);
        spring(91, five, 0, 0, 0, 0, 0, 0);
        spring(100, five, 0, 0, 0, 0, 0, 0);
        // No draw is for a lady, nor for one who wears none: the first two draws are for the second and third.
        spring(25, new String[] {"lady 0 0", "common 0 0", "duke 0 0", "common 0 0"}, 0, 0, 1, 0, 1);
        String bald = Texts.duchy(1, 0, 0, 25) + Texts.commons(3) + Texts.owes("b a 1 0", "c a 1 0");
        Run.told(bald).tells("moths(0, 0, 1)", 0).tells("moths(1, 0, 1)", 1).tells("moths(2, 0, 1)", 0);
        // Behind the spring: what comes up in it is there to be eaten, and counts for a draw.
        Run.told(Texts.duchy(1, 0, 0, 100) + Texts.commons(2) + Texts.owes("a b 3 1")).tells("moths(0, 0, 0)", 0)
            .tells("moths(0, 0, 1)", 2).tells("moths(0, 0, 2)", 1).tells("moths(0, 0, 3)", 0)
            .tells("moths(0, 0, 4)", 0);
        Run.told(Texts.duchy(1, 0, 0, 25) + Texts.commons(2) + Texts.owes("a b 1 1", "b a 1 0"))
            .tells("moths(0, 0, 1)", 1).tells("moths(1, 0, 1)", 0);
        // By numbers of men, not of debts.
        Run.told(Texts.duchy(1, 0, 0, 25) + Texts.commons(2) + Texts.owes("b a 1 0", "a b 1 0"))
            .tells("moths(0, 0, 1)", 1).tells("moths(1, 0, 1)", 0);
    }

    private static void mothsFirstDebt() {
        Doc.says("Terms III", "his first DUE debt loses a tine's coins (or what is LEFT)");
        Run run = Run.told(Texts.duchy(5, 0, 0, 100) + Texts.men("common 0 0", "lady 0 0")
            + Texts.owes("a b 9 3", "a b 7 0", "b a 9 0", "a b 5 0", "a b 1 0"));
        // 7, then 2 are left of the first one due; in the third spring the one told first is due.
        int[] eaten = {0, 5, 7, 12, 16, 21, 22, 22};
        int[] heads = {4, 3, 2, 3, 2, 1, 0, 0};
        for (int n = 0; n < eaten.length; n++) {
            run.tells("eaten(9, " + n + ")", eaten[n]).tells("moths(0, 9, " + n + ")", heads[n]);
        }
        run.tells("eaten(9, 20)", 22).tells("moths(1, 9, 20)", 0);
        // A duke's debt loses a tine's coins, not his HEAD's two tines.
        Run.told(Texts.duchy(20, 0, 0, 100) + Texts.men("duke 0 0", "lady 0 0") + Texts.owes("a b 41 0"))
            .tells("moths(0, 0, 1)", 4).tells("eaten(0, 1)", 20).tells("eaten(0, 2)", 40).tells("eaten(0, 3)", 41);
    }

    private static Run seeded(int moth) {
        return Run.told(Texts.duchy(1, 0, 0, moth) + Texts.commons(2) + Texts.owes("a b 99 0"));
    }

    private static void seeds() {
        Doc.says("Terms III", "(SEED becomes (75 times SEED and 74) mod 65,537).");
        // 872 becomes 65,474; 873 passes the end and becomes 12; 45,438 becomes 0; 65,535 becomes 65,461, and 65,536
        // itself.
        int[][] rows = {{0, 74}, {1, 49}, {872, 74}, {873, 12}, {45438, 0}, {65535, 61}, {65536, 36}};
        for (int[] row : rows) {
            seeded(row[1]).tells("eaten(" + row[0] + ", 1)", 0);
            seeded(row[1] + 1).tells("eaten(" + row[0] + ", 1)", 1);
        }
        seeded(36).tells("eaten(65536, 20)", 0);
        seeded(37).tells("eaten(65536, 20)", 20).tells("moths(0, 65536, 20)", 79);
        // From 873 on: 12, 74, 87, 3, 12, 34, 55, 41, 47, 31, ..
        seeded(13).tells("eaten(873, 2)", 1).tells("eaten(873, 3)", 1).tells("eaten(873, 4)", 2)
            .tells("eaten(873, 5)", 3).tells("eaten(873, 6)", 3);
        // From 45,438 on 0, and on as from the seed 0: 74, 24.
        seeded(1).tells("eaten(45438, 3)", 1);
        seeded(25).tells("eaten(45438, 2)", 1).tells("eaten(45438, 3)", 2);
    }

    private static void moths() {
        Doc.says("Promise 42", "HEAD of a man behind n springs (0 .. 20) with MOTHS by a SEED (0 .. 65,536).");
        Run run = Run.told(Check.BASE).tells("moths(0, 0, 0)", 3).tells("moths(0, 65536, 0)", 3)
            .tells("moths(0, 0, 1)", 5).tells("moths(2, 0, 1)", 2).tells("moths(2, 0, 2)", 0)
            .tells("moths(1, 0, 20)", 0);
        run.does("spring()");
        run.tells("moths(0, 0, 0)", 5);
        seeded(100).tells("moths(0, 65536, 20)", 79).tells("moths(0, 0, 20)", 79).tells("moths(1, 0, 20)", 0);
        Doc.says("Promise 42", "NONE: 1; 2.");
        Run.told(Check.BASE).refusesBeyond("moths(#, 0, 0)", 0, 3, -1, 1)
            .refusesBeyond("moths(0, #, 0)", 0, 65536, -1, 2).refusesBeyond("moths(0, 0, #)", 0, 20, -1, 2);
        Run.told(Check.BASE).refuses("moths(4, 65537, 21)", -1, 1).refuses("moths(-1, -1, -1)", -1, 1);
    }

    private static void eaten() {
        Doc.says("Promise 43", "Coins that were lost by MOTHS in them.");
        Run.told(Check.BASE).tells("eaten(0, 0)", 0).tells("eaten(0, 1)", 5).tells("eaten(0, 2)", 13);
        seeded(100).tells("eaten(0, 20)", 20).tells("eaten(65536, 20)", 20);
        seeded(0).tells("eaten(0, 20)", 0);
        Doc.says("Promise 43", "NONE: 1 (no DUCHY); 2.");
        new Run().refuses("eaten(0, 0)", -1, 1).refuses("eaten(-1, 0)", -1, 1).refuses("eaten(0, 21)", -1, 1);
        Run.told(Check.BASE).refusesBeyond("eaten(#, 0)", 0, 65536, -1, 2).refusesBeyond("eaten(0, #)", 0, 20, -1, 2);
    }
}
