import java.util.NoSuchElementException;

/**
 * The reckoning of a duchy in which debts show as antlers: who wears how many tines, who passes which door,
 * which debts can be let off in rings, which rumours are so. README.md says how to use it.
 */
public final class AntlerYear {
    public static final int NONE = -1;

    private static final int NEVER = -2;
    private static final int NO_SHARE = -100;

    private static final int TAPE_BYTES = 900;
    private static final int FEED_BYTES = 20;
    private static final int MAX_MEN = 5;
    private static final int MAX_DEBTS = 7;
    private static final int MAX_RUMOURS = 4;
    private static final int MAX_DOORS = 4;
    private static final int MAX_READINGS = 4;
    private static final int MAX_ACTS = 16;
    private static final int MAX_IMAGES = 3;

    private static final int LAST_SPRING = 999;
    private static final int SPRINGS_AHEAD = 20;
    private static final int MOST_WEEKS = 8;
    private static final int MOST_TOLD = 99;
    private static final int LAST_SEED = 65536;
    private static final int FIGHT_COSTS = 3;

    private static final int COMMON = 0;
    private static final int LADY = 1;
    private static final int DUKE = 2;
    private static final int FREAK = 3;

    private static final int FINE = 0;
    private static final int NO_SUCH = 1;
    private static final int BAD_NUMBER = 2;
    private static final int NO_ROOM = 3;
    private static final int FAULTY = 4;
    private static final int NOT_SO = 5;
    private static final int NOTHING_THERE = 6;

    private final Text text;
    private final Moment now;
    private final Past past;
    private final Seats seats;
    private final Rings rings;
    private final Odds odds;
    private final Moths swarm;
    private Facts facts;
    private Facts draft;
    private int latestFault;
    private int refusedBy;

    public AntlerYear() {
        text = new Text();
        now = new Moment();
        past = new Past();
        seats = new Seats();
        rings = new Rings();
        odds = new Odds();
        swarm = new Moths();
        facts = new Facts();
        draft = new Facts();
        latestFault = 0;
        refusedBy = FINE;
    }

    // ---- the duchy

    public int feed(int a, int b, int c, int d, int e) {
        if (text.fed + FEED_BYTES > TAPE_BYTES) {
            return NONE;
        }
        text.append(a);
        text.append(b);
        text.append(c);
        text.append(d);
        text.append(e);
        return text.fed;
    }

    public int duchy(int n) {
        if (n < 0 || n > text.fed) {
            return refuse(BAD_NUMBER);
        }
        latestFault = text.readInto(draft, n);
        text.fed = 0;
        if (latestFault != 0) {
            return refuse(FAULTY);
        }
        // The old facts become the next draft, so that no call makes new rows.
        Facts old = facts;
        facts = draft;
        draft = old;
        now.beginWith(facts);
        past.forgetAll();
        return grant(facts.men);
    }

    public int fault() {
        return latestFault;
    }

    public int where() {
        return refusedBy == FAULTY ? text.place : NONE;
    }

    // ---- now

    public int man(int m, int what) {
        if (!isMan(m) || what < 0 || what > 7) {
            return refuse(NO_SUCH);
        }
        return grant(factOfMan(m, what));
    }

    public int debt(int k, int what) {
        if (!isDebt(k) || what < 0 || what > 5) {
            return refuse(NO_SUCH);
        }
        return grant(factOfDebt(k, what));
    }

    public int door(int d, int what) {
        if (!isDoor(d) || what < 0 || what > 2) {
            return refuse(NO_SUCH);
        }
        if (what == 0) {
            return grant(facts.wide[d]);
        }
        return grant(what == 1 ? facts.passingBits(now, d) : facts.invitedBits(d));
    }

    public int heads() {
        return noDuchy() ? refuse(NO_SUCH) : grant(facts.allHeads(now, now.spring));
    }

    public int greatest() {
        if (noDuchy()) {
            return refuse(NO_SUCH);
        }
        int best = 0;
        for (int m = 1; m < facts.men; m++) {
            if (headNow(m) > headNow(best)) {
                best = m;
            }
        }
        return grant(best);
    }

    public int bald() {
        if (noDuchy()) {
            return refuse(NO_SUCH);
        }
        int bits = 0;
        for (int m = 0; m < facts.men; m++) {
            if (headNow(m) == 0) {
                bits |= 1 << m;
            }
        }
        return grant(bits);
    }

    // ---- springs to come

    public int headIn(int m, int n) {
        if (!isMan(m)) {
            return refuse(NO_SUCH);
        }
        if (n < 0 || n > SPRINGS_AHEAD) {
            return refuse(BAD_NUMBER);
        }
        return grant(facts.headOf(now, m, now.spring + n));
    }

    public int when(int m, int head) {
        if (!isMan(m)) {
            return refuse(NO_SUCH);
        }
        if (head < 0 || head > MOST_TOLD) {
            return refuse(BAD_NUMBER);
        }
        return grant(springsUntil(m, head));
    }

    public int worstSpring() {
        if (noDuchy()) {
            return refuse(NO_SUCH);
        }
        int worst = 0;
        int most = facts.allHeads(now, now.spring);
        for (int n = 1; n <= SPRINGS_AHEAD; n++) {
            int sum = facts.allHeads(now, now.spring + n);
            if (sum > most) {
                most = sum;
                worst = n;
            }
        }
        return grant(worst);
    }

    public int shutIn(int m, int d) {
        if (!isMan(m) || !isDoor(d)) {
            return refuse(NO_SUCH);
        }
        return grant(springsUntil(m, facts.wide[d] + 1));
    }

    // ---- doors

    public int payFor(int m, int d) {
        if (!isMan(m) || !isDoor(d)) {
            return refuse(NO_SUCH);
        }
        return grant(affordableToll(m, d));
    }

    public int payAll() {
        if (noDuchy()) {
            return refuse(NO_SUCH);
        }
        int sum = 0;
        for (int m = 0; m < facts.men; m++) {
            int d = facts.invitedTo[m];
            int toll = isDoor(d) ? affordableToll(m, d) : 0;
            if (toll == NEVER) {
                return grant(NEVER);
            }
            sum += toll;
        }
        return grant(sum);
    }

    public int passers() {
        if (noDuchy()) {
            return refuse(NO_SUCH);
        }
        int bits = 0;
        for (int m = 0; m < facts.men; m++) {
            int d = facts.invitedTo[m];
            if (isDoor(d) && facts.passes(now, m, d)) {
                bits |= 1 << m;
            }
        }
        return grant(bits);
    }

    public int shamed() {
        if (noDuchy()) {
            return refuse(NO_SUCH);
        }
        int bits = 0;
        for (int m = 0; m < facts.men; m++) {
            int d = facts.invitedTo[m];
            if (isDoor(d) && affordableToll(m, d) == NEVER) {
                bits |= 1 << m;
            }
        }
        return grant(bits);
    }

    public int cheapest(int m) {
        if (!isMan(m)) {
            return refuse(NO_SUCH);
        }
        int best = NEVER;
        int least = 0;
        for (int k = 0; k < facts.debts.count; k++) {
            if (facts.debts.from[k] == m && facts.isDue(now, k, now.spring)) {
                int cost = facts.nextTineCosts(now.left[k]);
                if (best == NEVER || cost < least) {
                    best = k;
                    least = cost;
                }
            }
        }
        return grant(best);
    }

    public int widthFor(int men) {
        if (noDuchy()) {
            return refuse(NO_SUCH);
        }
        if (men < 0 || men > facts.men) {
            return refuse(BAD_NUMBER);
        }
        return grant(leastWidth(men));
    }

    public int guests() {
        if (noDuchy()) {
            return refuse(NO_SUCH);
        }
        return grant(seats.assign(facts, now));
    }

    public int doorOf(int m) {
        if (!isMan(m)) {
            return refuse(NO_SUCH);
        }
        seats.assign(facts, now);
        return grant(seats.doorRow[m]);
    }

    // ---- rings

    public int ring(int m) {
        if (!isMan(m)) {
            return refuse(NO_SUCH);
        }
        return grant(rings.find(facts, now, m) ? rings.length : NEVER);
    }

    public int ringAt(int m, int i) {
        if (!isMan(m) || !rings.find(facts, now, m) || i < 0 || i >= rings.length) {
            return refuse(NO_SUCH);
        }
        return grant(rings.row[i]);
    }

    public int ringSum(int m) {
        if (!isMan(m)) {
            return refuse(NO_SUCH);
        }
        return grant(rings.find(facts, now, m) ? rings.sum(facts, now) : NEVER);
    }

    public int bestRing() {
        if (noDuchy()) {
            return refuse(NO_SUCH);
        }
        int best = NEVER;
        int most = 0;
        for (int m = 0; m < facts.men; m++) {
            if (rings.find(facts, now, m)) {
                int freed = rings.sum(facts, now) * rings.length;
                if (best == NEVER || freed > most) {
                    best = m;
                    most = freed;
                }
            }
        }
        return grant(best);
    }

    public int reach(int m) {
        if (!isMan(m)) {
            return refuse(NO_SUCH);
        }
        int bits = facts.owedBits(now, m);
        // A round that adds anyone adds one man or more, so men rounds are enough.
        for (int round = 0; round < facts.men; round++) {
            for (int other = 0; other < facts.men; other++) {
                if ((bits >> other & 1) != 0) {
                    bits |= facts.owedBits(now, other);
                }
            }
        }
        return grant(bits);
    }

    // ---- rumours

    public int fits() {
        if (noDuchy()) {
            return refuse(NO_SUCH);
        }
        odds.weigh(facts, now);
        return grant(odds.fitting);
    }

    public int fitAt(int i) {
        if (noDuchy() || i < 0) {
            return refuse(NO_SUCH);
        }
        odds.weigh(facts, now);
        int set = odds.fitNumber(i);
        return set == NONE ? refuse(NO_SUCH) : grant(set);
    }

    public long likely(int k, boolean lower) {
        if (k < 0 || k >= facts.rumours.count) {
            return refuse(NO_SUCH);
        }
        odds.weigh(facts, now);
        refusedBy = FINE;
        return lowest(odds.weightOfRumour(k), odds.all, lower);
    }

    public long headIs(int m, int head, boolean lower) {
        if (!isMan(m)) {
            return refuse(NO_SUCH);
        }
        if (head < 0 || head > MOST_TOLD) {
            return refuse(BAD_NUMBER);
        }
        odds.weigh(facts, now);
        refusedBy = FINE;
        return lowest(odds.weightOfHead(facts, now, m, head), odds.all, lower);
    }

    public int likeliest() {
        if (noDuchy()) {
            return refuse(NO_SUCH);
        }
        odds.weigh(facts, now);
        return grant(odds.heaviest());
    }

    public int look() {
        if (noDuchy()) {
            return refuse(NO_SUCH);
        }
        odds.weigh(facts, now);
        return grant(manToLookAt());
    }

    public int lookLeaves() {
        if (noDuchy()) {
            return refuse(NO_SUCH);
        }
        odds.weigh(facts, now);
        int m = manToLookAt();
        return grant(m == NEVER ? NEVER : odds.leftAtMost(facts, now, m));
    }

    public int judge() {
        if (noDuchy()) {
            return refuse(NO_SUCH);
        }
        for (int r = 0; r < facts.readings; r++) {
            if (facts.readingWeight(r, headNow(facts.readMan[r])) == 0) {
                return grant(r);
            }
        }
        return grant(NEVER);
    }

    // ---- two who dispute

    public int duel(int m, int other, int sum, boolean fights, boolean others, boolean ofOther) {
        int why = troubleOfDispute(m, other, sum);
        if (why != FINE) {
            refuse(why);
            return NO_SHARE;
        }
        return grant(ofOther ? share(other, m, sum, others, fights) : share(m, other, sum, fights, others));
    }

    public int rests(int m, int other, int sum) {
        int why = troubleOfDispute(m, other, sum);
        if (why != FINE) {
            return refuse(why);
        }
        int count = 0;
        for (int pair = 0; pair < 4; pair++) {
            if (isRest(m, other, sum, pair)) {
                count++;
            }
        }
        return grant(count);
    }

    public int rest(int m, int other, int sum) {
        int why = troubleOfDispute(m, other, sum);
        if (why != FINE) {
            return refuse(why);
        }
        for (int pair = 0; pair < 4; pair++) {
            if (isRest(m, other, sum, pair)) {
                return grant((pair >> 1) * 10 + (pair & 1));
            }
        }
        return grant(NEVER);
    }

    // ---- locked pairs, moths

    public long locked(int n, boolean lower) {
        int why = troubleOfWeeks(n);
        if (why != FINE) {
            return refuse(why);
        }
        long upper = 1;
        long whole = 1;
        for (int week = 0; week < n; week++) {
            upper *= facts.lock;
            whole *= 100;
        }
        refusedBy = FINE;
        return lowest(upper, whole, lower);
    }

    public long weeks(int n, boolean lower) {
        int why = troubleOfWeeks(n);
        if (why != FINE) {
            return refuse(why);
        }
        long still = 1;
        long sum = 0;
        long whole = 1;
        for (int week = 0; week < n; week++) {
            still *= facts.lock;
            sum = sum * 100 + still;
            whole *= 100;
        }
        refusedBy = FINE;
        return lowest(sum, whole, lower);
    }

    public int moths(int m, int seed, int n) {
        if (!isMan(m)) {
            return refuse(NO_SUCH);
        }
        if (!isFlight(seed, n)) {
            return refuse(BAD_NUMBER);
        }
        swarm.fly(facts, now, seed, n);
        return grant(facts.headOf(swarm.dream, m, swarm.dream.spring));
    }

    public int eaten(int seed, int n) {
        if (noDuchy()) {
            return refuse(NO_SUCH);
        }
        if (!isFlight(seed, n)) {
            return refuse(BAD_NUMBER);
        }
        swarm.fly(facts, now, seed, n);
        return grant(swarm.lost);
    }

    // ---- acts

    public int pay(int k, int coins) {
        if (!isDebt(k)) {
            return refuse(NO_SUCH);
        }
        if (coins < 1 || coins > MOST_TOLD) {
            return refuse(BAD_NUMBER);
        }
        if (!facts.isDue(now, k, now.spring) || now.left[k] < coins) {
            return refuse(NOT_SO);
        }
        int from = facts.debts.from[k];
        if (now.purse[from] < coins) {
            return refuse(NOTHING_THERE);
        }
        past.keep(now);
        now.purse[from] -= coins;
        now.purse[facts.debts.to[k]] += coins;
        now.left[k] -= coins;
        return grant(now.left[k]);
    }

    public int letOff(int m) {
        if (!isMan(m)) {
            return refuse(NO_SUCH);
        }
        if (!rings.find(facts, now, m)) {
            return refuse(NOTHING_THERE);
        }
        past.keep(now);
        int sum = rings.sum(facts, now);
        rings.cancel(facts, now, sum);
        return grant(sum);
    }

    public int shed(int m) {
        if (!isMan(m)) {
            return refuse(NO_SUCH);
        }
        int forgiven = facts.dueFrom(now, m);
        if (forgiven == 0) {
            return refuse(NOT_SO);
        }
        past.keep(now);
        for (int k = 0; k < facts.debts.count; k++) {
            if (facts.debts.from[k] == m && facts.isDue(now, k, now.spring)) {
                now.left[k] = 0;
            }
        }
        return grant(forgiven);
    }

    public int spring() {
        if (noDuchy()) {
            return refuse(NO_SUCH);
        }
        if (now.spring >= LAST_SPRING) {
            return refuse(NO_ROOM);
        }
        past.keep(now);
        now.spring++;
        return grant(facts.allHeads(now, now.spring));
    }

    public boolean undo() {
        boolean undone = past.takeBack(now);
        refusedBy = undone ? FINE : NOTHING_THERE;
        return undone;
    }

    public int image() {
        if (noDuchy()) {
            return refuse(NO_SUCH);
        }
        int number = past.draw(now);
        return number == NONE ? refuse(NO_ROOM) : grant(number);
    }

    public boolean back(int image) {
        boolean gone = past.goBack(image, now);
        refusedBy = gone ? FINE : NO_SUCH;
        return gone;
    }

    // ---- what is told

    public int led(int i) throws NoSuchElementException {
        int seen = 0;
        for (int m = 0; m < facts.men; m++) {
            if (headNow(m) > facts.strong[m]) {
                if (seen == i) {
                    return m;
                }
                seen++;
            }
        }
        throw new NoSuchElementException("no such man wears more than his strength");
    }

    public int size(int what) {
        switch (what) {
            case 0: return facts.tine;
            case 1: return facts.errs;
            case 2: return facts.lock;
            case 3: return facts.moth;
            case 4: return facts.men;
            case 5: return facts.debts.count;
            case 6: return facts.rumours.count;
            case 7: return facts.doors;
            case 8: return facts.invitedCount();
            case 9: return facts.readings;
            case 10: return now.spring;
            case 11: return past.kept;
            case 12: return past.drawn;
            case 13: return text.fed;
            default: return NONE;
        }
    }

    public int trouble() {
        return refusedBy;
    }

    // ---- helpers of the calls

    private int refuse(int why) {
        refusedBy = why;
        return NONE;
    }

    private int grant(int answer) {
        refusedBy = FINE;
        return answer;
    }

    // A duchy always has a man, so facts without one are no duchy.
    private boolean noDuchy() {
        return facts.men == 0;
    }

    private boolean isMan(int m) {
        return m >= 0 && m < facts.men;
    }

    private boolean isDebt(int k) {
        return k >= 0 && k < facts.debts.count;
    }

    private boolean isDoor(int d) {
        return d >= 0 && d < facts.doors;
    }

    private boolean isFlight(int seed, int n) {
        return seed >= 0 && seed <= LAST_SEED && n >= 0 && n <= SPRINGS_AHEAD;
    }

    private int headNow(int m) {
        return facts.headOf(now, m, now.spring);
    }

    private int factOfMan(int m, int what) {
        switch (what) {
            case 0: return facts.kind[m];
            case 1: return now.purse[m];
            case 2: return facts.strong[m];
            case 3: return headNow(m);
            case 4: return facts.burdenOf(now, m, now.spring);
            case 5: return facts.dueFrom(now, m);
            case 6: return facts.dueTo(now, m);
            default: return facts.owedBits(now, m);
        }
    }

    private int factOfDebt(int k, int what) {
        switch (what) {
            case 0: return facts.debts.from[k];
            case 1: return facts.debts.to[k];
            case 2: return now.left[k];
            case 3: return facts.debts.spring[k];
            case 4: return facts.isDue(now, k, now.spring) ? 1 : 0;
            default: return facts.tinesOf(now, k, now.spring);
        }
    }

    private int springsUntil(int m, int head) {
        for (int n = 0; n <= SPRINGS_AHEAD; n++) {
            if (facts.headOf(now, m, now.spring + n) >= head) {
                return n;
            }
        }
        return NEVER;
    }

    private int affordableToll(int m, int d) {
        int toll = facts.tollFor(now, m, facts.wide[d]);
        return toll > now.purse[m] ? NEVER : toll;
    }

    // The least width is no width at all, or just as wide as some man's head.
    private int leastWidth(int men) {
        if (facts.menWithin(now, 0) >= men) {
            return 0;
        }
        int least = NONE;
        for (int m = 0; m < facts.men; m++) {
            int head = headNow(m);
            if (facts.menWithin(now, head) >= men && (least == NONE || head < least)) {
                least = head;
            }
        }
        return least;
    }

    private int manToLookAt() {
        if (odds.fitting == 0) {
            return NEVER;
        }
        int best = 0;
        int fewest = odds.leftAtMost(facts, now, 0);
        for (int m = 1; m < facts.men; m++) {
            int left = odds.leftAtMost(facts, now, m);
            if (left < fewest) {
                best = m;
                fewest = left;
            }
        }
        return best;
    }

    private int troubleOfDispute(int m, int other, int sum) {
        if (!isMan(m) || !isMan(other) || m == other) {
            return NO_SUCH;
        }
        return sum < 0 || sum > MOST_TOLD ? BAD_NUMBER : FINE;
    }

    private int troubleOfWeeks(int n) {
        if (noDuchy()) {
            return NO_SUCH;
        }
        return n < 0 || n > MOST_WEEKS ? BAD_NUMBER : FINE;
    }

    private int share(int m, int other, int sum, boolean fights, boolean others) {
        if (fights && others) {
            return facts.strong[m] > facts.strong[other] ? sum - FIGHT_COSTS : -FIGHT_COSTS;
        }
        if (fights) {
            return sum;
        }
        return others ? 0 : sum / 2;
    }

    private boolean isRest(int m, int other, int sum, int pair) {
        boolean fights = (pair >> 1) != 0;
        boolean others = (pair & 1) != 0;
        return share(m, other, sum, fights, others) >= share(m, other, sum, !fights, others)
            && share(other, m, sum, others, fights) >= share(other, m, sum, !others, fights);
    }

    private static long lowest(long upper, long whole, boolean lower) {
        if (upper <= 0 || whole <= 0) {
            return lower ? 1 : 0;
        }
        long a = whole;
        long b = upper;
        // Euclid needs fewer than 100 rounds for two longs.
        for (int round = 0; round < 200 && b != 0; round++) {
            long rest = a % b;
            a = b;
            b = rest;
        }
        if (a == 0) {
            return NONE;
        }
        return (lower ? whole : upper) / a;
    }

    /** Debts, or rumours of debts, as they were told. */
    private static final class Claims {
        final int[] from;
        final int[] to;
        final int[] coins;
        final int[] spring;
        int count;

        Claims(int room) {
            int rows = room < 0 ? 0 : room;
            from = new int[rows];
            to = new int[rows];
            coins = new int[rows];
            spring = new int[rows];
            count = 0;
        }

        boolean isFull() {
            return count >= from.length;
        }
    }

    /** What changes by acts: the spring, the coins of each man, what is left of each debt. */
    private static final class Moment {
        final int[] purse = new int[MAX_MEN];
        final int[] left = new int[MAX_DEBTS];
        int spring;

        void copyOf(Moment other) {
            for (int m = 0; m < MAX_MEN; m++) {
                purse[m] = other.purse[m];
            }
            for (int k = 0; k < MAX_DEBTS; k++) {
                left[k] = other.left[k];
            }
            spring = other.spring;
        }

        void beginWith(Facts f) {
            for (int m = 0; m < MAX_MEN; m++) {
                purse[m] = m < f.men ? f.coins[m] : 0;
            }
            for (int k = 0; k < MAX_DEBTS; k++) {
                left[k] = k < f.debts.count ? f.debts.coins[k] : 0;
            }
            spring = 0;
        }
    }

    /** What the text told, and what follows from it at some moment. */
    private static final class Facts {
        final int[] kind = new int[MAX_MEN];
        final int[] coins = new int[MAX_MEN];
        final int[] strong = new int[MAX_MEN];
        final int[] invitedTo = new int[MAX_MEN];
        final int[] wide = new int[MAX_DOORS];
        final int[] readMan = new int[MAX_READINGS];
        final int[] readHead = new int[MAX_READINGS];
        final Claims debts = new Claims(MAX_DEBTS);
        final Claims rumours = new Claims(MAX_RUMOURS);
        int tine;
        int errs;
        int lock;
        int moth;
        int men;
        int doors;
        int readings;

        void clear() {
            debts.count = 0;
            rumours.count = 0;
            tine = 0;
            errs = 0;
            lock = 0;
            moth = 0;
            men = 0;
            doors = 0;
            readings = 0;
        }

        boolean isDue(Moment t, int k, int spring) {
            return debts.spring[k] <= spring && t.left[k] > 0;
        }

        int tinesFor(int sum) {
            if (sum <= 0 || tine <= 0) {
                return 0;
            }
            return (sum + tine - 1) / tine;
        }

        int tinesOf(Moment t, int k, int spring) {
            return isDue(t, k, spring) ? tinesFor(t.left[k]) : 0;
        }

        int burdenOf(Moment t, int m, int spring) {
            int sum = 0;
            for (int k = 0; k < debts.count; k++) {
                if (debts.from[k] == m && isDue(t, k, spring)) {
                    sum += tinesFor(t.left[k]);
                }
            }
            return sum;
        }

        int headBy(int m, int burden) {
            switch (kind[m]) {
                case LADY: return 0;
                case DUKE: return 2 * burden;
                case FREAK: return (burden + 1) / 2;
                default: return burden;
            }
        }

        int headOf(Moment t, int m, int spring) {
            return headBy(m, burdenOf(t, m, spring));
        }

        int allHeads(Moment t, int spring) {
            int sum = 0;
            for (int m = 0; m < men; m++) {
                sum += headOf(t, m, spring);
            }
            return sum;
        }

        int dueFrom(Moment t, int m) {
            int sum = 0;
            for (int k = 0; k < debts.count; k++) {
                if (debts.from[k] == m && isDue(t, k, t.spring)) {
                    sum += t.left[k];
                }
            }
            return sum;
        }

        int dueTo(Moment t, int m) {
            int sum = 0;
            for (int k = 0; k < debts.count; k++) {
                if (debts.to[k] == m && isDue(t, k, t.spring)) {
                    sum += t.left[k];
                }
            }
            return sum;
        }

        int dueBetween(Moment t, int m, int other) {
            int sum = 0;
            for (int k = 0; k < debts.count; k++) {
                if (debts.from[k] == m && debts.to[k] == other && isDue(t, k, t.spring)) {
                    sum += t.left[k];
                }
            }
            return sum;
        }

        int owedBits(Moment t, int m) {
            int bits = 0;
            for (int k = 0; k < debts.count; k++) {
                if (debts.from[k] == m && isDue(t, k, t.spring)) {
                    bits |= 1 << debts.to[k];
                }
            }
            return bits;
        }

        boolean passes(Moment t, int m, int d) {
            return headOf(t, m, t.spring) <= wide[d];
        }

        int passingBits(Moment t, int d) {
            int bits = 0;
            for (int m = 0; m < men; m++) {
                if (passes(t, m, d)) {
                    bits |= 1 << m;
                }
            }
            return bits;
        }

        int invitedBits(int d) {
            int bits = 0;
            for (int m = 0; m < men; m++) {
                if (invitedTo[m] == d) {
                    bits |= 1 << m;
                }
            }
            return bits;
        }

        int invitedCount() {
            int count = 0;
            for (int m = 0; m < men; m++) {
                if (invitedTo[m] != NONE) {
                    count++;
                }
            }
            return count;
        }

        int menWithin(Moment t, int width) {
            int count = 0;
            for (int m = 0; m < men; m++) {
                if (headOf(t, m, t.spring) <= width) {
                    count++;
                }
            }
            return count;
        }

        int nextTineCosts(int left) {
            if (left <= 0 || tine <= 0) {
                return 0;
            }
            return (left - 1) % tine + 1;
        }

        int burdenWithin(int m, int width) {
            switch (kind[m]) {
                case DUKE: return width / 2;
                case FREAK: return 2 * width;
                default: return width;
            }
        }

        /**
         * The fewest coins by which a man's head is within a width. Only the first tine of a debt may cost less
         * than a whole tine's coins, so the cheapest first tines are taken, and then whole ones.
         */
        int tollFor(Moment t, int m, int width) {
            if (kind[m] == LADY) {
                return 0;
            }
            int over = burdenOf(t, m, t.spring) - burdenWithin(m, width);
            int toll = 0;
            for (int cost = 1; cost < tine && over > 0; cost++) {
                int taken = Math.min(over, firstTinesAt(t, m, cost));
                toll += taken * cost;
                over -= taken;
            }
            return over > 0 ? toll + over * tine : toll;
        }

        int firstTinesAt(Moment t, int m, int cost) {
            int count = 0;
            for (int k = 0; k < debts.count; k++) {
                if (debts.from[k] == m && isDue(t, k, t.spring) && nextTineCosts(t.left[k]) == cost) {
                    count++;
                }
            }
            return count;
        }

        /** How likely a reading is of such a head, in two-hundredths, since one more and one less share what errs. */
        int readingWeight(int r, int head) {
            int off = readHead[r] - head;
            if (off == 0) {
                return 200 - 2 * errs;
            }
            if (head == 0) {
                return off == 1 ? 2 * errs : 0;
            }
            return off == 1 || off == -1 ? errs : 0;
        }
    }

    /** THE TAPE, and how it is read as a duchy, token by token. */
    private static final class Text {
        private static final int FORM = 1;
        private static final int UNTOLD = 2;
        private static final int AGAIN = 3;
        private static final int BOUNDS = 4;
        private static final int MANY = 5;
        private static final int LACKS = 6;

        private static final int AT_END = 0;
        private static final int WORD = 1;
        private static final int WHOLE = 2;
        private static final int PARTING = 3;
        private static final int ALIEN = 4;

        private static final int LONGEST_WORD = 8;
        private static final int LONGEST_WHOLE = 3;

        int fed;
        int place;
        private final byte[] tape = new byte[TAPE_BYTES];
        private final long[] manNames = new long[MAX_MEN];
        private final long[] doorNames = new long[MAX_DOORS];
        private boolean begun;
        private int fault;
        private int end;
        private int sort;
        private int start;
        private int stop;
        private int whole;

        void append(int number) {
            for (int shift = 24; shift >= 0 && fed < TAPE_BYTES; shift -= 8) {
                tape[fed] = (byte) (number >> shift);
                fed++;
            }
        }

        /** The fault of the first n bytes, or 0; facts are whole only without one. */
        int readInto(Facts f, int n) {
            f.clear();
            begun = false;
            fault = 0;
            place = NONE;
            end = Math.max(0, Math.min(n, TAPE_BYTES));
            stop = 0;
            advance();
            // Each line takes a byte or more, so there are fewer lines than bytes.
            for (int line = 0; line <= TAPE_BYTES; line++) {
                if (!readLine(f)) {
                    return fault;
                }
                if (sort == AT_END) {
                    return f.men == 0 ? blamed(LACKS) : 0;
                }
                if (sort != PARTING) {
                    return blamed(FORM);
                }
                advance();
            }
            return blamed(FORM);
        }

        private boolean readLine(Facts f) {
            if (!isLineWord()) {
                return blame(FORM);
            }
            if (is("duchy")) {
                return readDuchy(f);
            }
            if (!begun) {
                return blame(LACKS);
            }
            if (is("man")) {
                return readMan(f);
            }
            if (is("owes")) {
                return readClaim(f, f.debts);
            }
            if (is("rumour")) {
                return readClaim(f, f.rumours);
            }
            if (is("door")) {
                return readDoor(f);
            }
            return is("invited") ? readInvited(f) : readReading(f);
        }

        private boolean readDuchy(Facts f) {
            if (begun) {
                return blame(AGAIN);
            }
            begun = true;
            advance();
            if (!expect("tine") || !wholeWithin(1, 20)) {
                return false;
            }
            f.tine = whole;
            if (!expect("errs") || !wholeWithin(0, 100)) {
                return false;
            }
            f.errs = whole;
            if (!expect("lock") || !wholeWithin(0, 100)) {
                return false;
            }
            f.lock = whole;
            if (!expect("moth") || !wholeWithin(0, 100)) {
                return false;
            }
            f.moth = whole;
            return true;
        }

        private boolean readMan(Facts f) {
            int m = f.men;
            if (m >= MAX_MEN) {
                return blame(MANY);
            }
            advance();
            if (!isNewName(f)) {
                return false;
            }
            manNames[m] = code();
            advance();
            int kind = kindHere();
            if (kind == NONE) {
                return blame(FORM);
            }
            advance();
            if (!expect("coins") || !wholeWithin(0, 99)) {
                return false;
            }
            f.coins[m] = whole;
            if (!expect("strong") || !wholeWithin(0, 9)) {
                return false;
            }
            f.strong[m] = whole;
            f.kind[m] = kind;
            f.invitedTo[m] = NONE;
            f.men = m + 1;
            return true;
        }

        private boolean readClaim(Facts f, Claims claims) {
            if (claims.isFull()) {
                return blame(MANY);
            }
            advance();
            int from = manHere(f);
            if (from == NONE) {
                return false;
            }
            advance();
            int to = manHere(f);
            if (to == NONE) {
                return false;
            }
            if (to == from) {
                return blame(AGAIN);
            }
            advance();
            if (!wholeWithin(1, 99)) {
                return false;
            }
            int coins = whole;
            if (!expect("spring") || !wholeWithin(0, 9)) {
                return false;
            }
            int k = claims.count;
            claims.from[k] = from;
            claims.to[k] = to;
            claims.coins[k] = coins;
            claims.spring[k] = whole;
            claims.count = k + 1;
            return true;
        }

        private boolean readDoor(Facts f) {
            int d = f.doors;
            if (d >= MAX_DOORS) {
                return blame(MANY);
            }
            advance();
            if (!isNewName(f)) {
                return false;
            }
            doorNames[d] = code();
            advance();
            if (!expect("wide") || !wholeWithin(0, 40)) {
                return false;
            }
            f.wide[d] = whole;
            f.doors = d + 1;
            return true;
        }

        private boolean readInvited(Facts f) {
            advance();
            int m = manHere(f);
            if (m == NONE) {
                return false;
            }
            if (f.invitedTo[m] != NONE) {
                return blame(AGAIN);
            }
            advance();
            if (sort != WORD || isLineWord()) {
                return blame(FORM);
            }
            int d = indexOf(doorNames, f.doors, code());
            if (d == NONE) {
                return blame(UNTOLD);
            }
            f.invitedTo[m] = d;
            advance();
            return true;
        }

        private boolean readReading(Facts f) {
            int r = f.readings;
            if (r >= MAX_READINGS) {
                return blame(MANY);
            }
            advance();
            int m = manHere(f);
            if (m == NONE) {
                return false;
            }
            advance();
            if (!wholeWithin(0, 40)) {
                return false;
            }
            f.readMan[r] = m;
            f.readHead[r] = whole;
            f.readings = r + 1;
            return true;
        }

        private boolean blame(int number) {
            fault = number;
            place = start;
            return false;
        }

        private int blamed(int number) {
            blame(number);
            return number;
        }

        private boolean expect(String word) {
            if (!is(word)) {
                return blame(FORM);
            }
            advance();
            return true;
        }

        private boolean wholeWithin(int least, int most) {
            if (sort != WHOLE) {
                return blame(FORM);
            }
            int value = 0;
            for (int at = start; at < stop; at++) {
                value = value * 10 + (tape[at] - '0');
            }
            if (value < least || value > most) {
                return blame(BOUNDS);
            }
            whole = value;
            advance();
            return true;
        }

        private boolean isNewName(Facts f) {
            if (sort != WORD || isLineWord()) {
                return blame(FORM);
            }
            long name = code();
            if (indexOf(manNames, f.men, name) != NONE || indexOf(doorNames, f.doors, name) != NONE) {
                return blame(AGAIN);
            }
            return true;
        }

        private int manHere(Facts f) {
            if (sort != WORD || isLineWord()) {
                blame(FORM);
                return NONE;
            }
            int m = indexOf(manNames, f.men, code());
            if (m == NONE) {
                blame(UNTOLD);
            }
            return m;
        }

        private int kindHere() {
            if (is("common")) {
                return COMMON;
            }
            if (is("lady")) {
                return LADY;
            }
            if (is("duke")) {
                return DUKE;
            }
            return is("freak") ? FREAK : NONE;
        }

        private boolean isLineWord() {
            return is("duchy") || is("man") || is("owes") || is("rumour") || is("door") || is("invited") || is("read");
        }

        private boolean is(String word) {
            if (sort != WORD || stop - start != word.length()) {
                return false;
            }
            for (int i = 0; i < word.length(); i++) {
                if (tape[start + i] != word.charAt(i)) {
                    return false;
                }
            }
            return true;
        }

        /** The word here as a number of its own: eight letters by 27 fit into a long. */
        private long code() {
            long sum = 0;
            for (int at = start; at < stop; at++) {
                sum = sum * 27 + (tape[at] - 'a' + 1);
            }
            return sum;
        }

        private static int indexOf(long[] names, int count, long name) {
            for (int i = 0; i < count && i < names.length; i++) {
                if (names[i] == name) {
                    return i;
                }
            }
            return NONE;
        }

        private void advance() {
            start = stop;
            while (start < end && tape[start] == ' ') {
                start++;
            }
            if (start >= end) {
                stop = end;
                sort = AT_END;
                return;
            }
            int first = tape[start];
            if (first >= 'a' && first <= 'z') {
                stop = runEnd('a', 'z');
                sort = stop - start <= LONGEST_WORD ? WORD : ALIEN;
            } else if (first >= '0' && first <= '9') {
                stop = runEnd('0', '9');
                sort = stop - start <= LONGEST_WHOLE ? WHOLE : ALIEN;
            } else {
                stop = start + 1;
                sort = first == ';' ? PARTING : ALIEN;
            }
        }

        private int runEnd(char low, char high) {
            int at = start;
            while (at < end && tape[at] >= low && tape[at] <= high) {
                at++;
            }
            return at;
        }
    }

    /** What can be undone, and the images. */
    private static final class Past {
        int kept;
        int drawn;
        private final Moment[] acts = new Moment[MAX_ACTS];
        private final Moment[] images = new Moment[MAX_IMAGES];
        private int next;

        Past() {
            for (int i = 0; i < MAX_ACTS; i++) {
                acts[i] = new Moment();
            }
            for (int i = 0; i < MAX_IMAGES; i++) {
                images[i] = new Moment();
            }
        }

        void forgetAll() {
            kept = 0;
            drawn = 0;
        }

        // The rows go round: beyond 16 the oldest one is written over.
        void keep(Moment now) {
            acts[next].copyOf(now);
            next = (next + 1) % MAX_ACTS;
            kept = Math.min(kept + 1, MAX_ACTS);
        }

        boolean takeBack(Moment now) {
            if (kept <= 0) {
                return false;
            }
            kept--;
            next = (next + MAX_ACTS - 1) % MAX_ACTS;
            now.copyOf(acts[next]);
            return true;
        }

        int draw(Moment now) {
            if (drawn >= MAX_IMAGES) {
                return NONE;
            }
            images[drawn].copyOf(now);
            drawn++;
            return drawn - 1;
        }

        boolean goBack(int image, Moment now) {
            if (image < 0 || image >= drawn) {
                return false;
            }
            now.copyOf(images[image]);
            kept = 0;
            return true;
        }
    }

    /** Most guests through unlike doors. */
    private static final class Seats {
        private static final int DOOR_SETS = 1 << MAX_DOORS;

        final int[] doorRow = new int[MAX_MEN];
        private final int[] passing = new int[MAX_DOORS];
        private final int[] most = new int[(MAX_MEN + 1) * DOOR_SETS];

        /** Fills the row of doors by men, and tells how many guests it has. */
        int assign(Facts f, Moment t) {
            for (int d = 0; d < f.doors; d++) {
                passing[d] = f.passingBits(t, d);
            }
            for (int used = 0; used < DOOR_SETS; used++) {
                most[f.men * DOOR_SETS + used] = 0;
            }
            for (int m = f.men - 1; m >= 0; m--) {
                for (int used = 0; used < DOOR_SETS; used++) {
                    most[m * DOOR_SETS + used] = mostFrom(f, m, used);
                }
            }
            int used = 0;
            for (int m = 0; m < f.men; m++) {
                int d = firstDoor(f, m, used);
                doorRow[m] = d;
                used |= d == NEVER ? 0 : 1 << d;
            }
            return most[0];
        }

        private int mostFrom(Facts f, int m, int used) {
            int best = most[(m + 1) * DOOR_SETS + used];
            for (int d = 0; d < f.doors; d++) {
                if (isOpen(m, d, used)) {
                    best = Math.max(best, 1 + most[(m + 1) * DOOR_SETS + (used | 1 << d)]);
                }
            }
            return best;
        }

        private int firstDoor(Facts f, int m, int used) {
            for (int d = 0; d < f.doors; d++) {
                if (isOpen(m, d, used)
                    && 1 + most[(m + 1) * DOOR_SETS + (used | 1 << d)] == most[m * DOOR_SETS + used]) {
                    return d;
                }
            }
            return NEVER;
        }

        private boolean isOpen(int m, int d, int used) {
            return (used >> d & 1) == 0 && (passing[d] >> m & 1) != 0;
        }
    }

    /** The ring of debts through a man. */
    private static final class Rings {
        final int[] row = new int[MAX_MEN];
        int length;
        private final int[] owed = new int[MAX_MEN];
        private final int[] stepsHome = new int[MAX_MEN];

        /** Finds the shortest ring through a man, of like ones the first by men; false if there is none. */
        boolean find(Facts f, Moment t, int home) {
            measure(f, t, home);
            int steps = stepsFrom(f, home);
            length = steps == NONE ? 0 : Math.min(steps, MAX_MEN);
            int at = home;
            for (int i = 0; i < length && at != NONE; i++) {
                row[i] = at;
                at = firstTowards(f, at, length - 1 - i);
            }
            return length > 0;
        }

        private void measure(Facts f, Moment t, int home) {
            for (int m = 0; m < f.men; m++) {
                owed[m] = f.owedBits(t, m);
                stepsHome[m] = m == home ? 0 : NONE;
            }
            // By the n-th round all men who are n steps from home are known.
            for (int round = 1; round < f.men; round++) {
                for (int m = 0; m < f.men; m++) {
                    if (stepsHome[m] == NONE && stepsFrom(f, m) == round) {
                        stepsHome[m] = round;
                    }
                }
            }
        }

        /** One step more than the nearest man whom he owes needs; NONE if none of them gets home. */
        private int stepsFrom(Facts f, int m) {
            int least = NONE;
            for (int next = 0; next < f.men; next++) {
                int steps = stepsHome[next];
                if ((owed[m] >> next & 1) != 0 && steps != NONE && (least == NONE || steps + 1 < least)) {
                    least = steps + 1;
                }
            }
            return least;
        }

        private int firstTowards(Facts f, int m, int steps) {
            for (int next = 0; next < f.men; next++) {
                if ((owed[m] >> next & 1) != 0 && stepsHome[next] == steps) {
                    return next;
                }
            }
            return NONE;
        }

        private int follower(int i) {
            return i + 1 < length ? row[i + 1] : row[0];
        }

        int sum(Facts f, Moment t) {
            int least = NONE;
            for (int i = 0; i < length; i++) {
                int due = f.dueBetween(t, row[i], follower(i));
                if (least == NONE || due < least) {
                    least = due;
                }
            }
            return least;
        }

        void cancel(Facts f, Moment t, int sum) {
            for (int i = 0; i < length; i++) {
                int rest = sum;
                for (int k = 0; k < f.debts.count; k++) {
                    if (f.debts.from[k] == row[i] && f.debts.to[k] == follower(i) && f.isDue(t, k, t.spring)) {
                        int less = Math.min(rest, t.left[k]);
                        t.left[k] -= less;
                        rest -= less;
                    }
                }
            }
        }
    }

    /** How likely each set of rumours is, by what was read. */
    private static final class Odds {
        int fitting;
        long all;
        private int sets;
        private final long[] weight = new long[1 << MAX_RUMOURS];
        private final int[] headBySet = new int[1 << MAX_RUMOURS];

        void weigh(Facts f, Moment t) {
            sets = 1 << f.rumours.count;
            fitting = 0;
            all = 0;
            for (int set = 0; set < sets; set++) {
                long product = 1;
                for (int r = 0; r < f.readings; r++) {
                    product *= f.readingWeight(r, headWith(f, t, f.readMan[r], set));
                }
                weight[set] = product;
                all += product;
                fitting += product > 0 ? 1 : 0;
            }
        }

        /** A rumour of the set is a debt told from the beginning: due by its own spring, none of it paid. */
        private static int headWith(Facts f, Moment t, int m, int set) {
            int burden = f.burdenOf(t, m, t.spring);
            for (int k = 0; k < f.rumours.count; k++) {
                if ((set >> k & 1) != 0 && f.rumours.from[k] == m && f.rumours.spring[k] <= t.spring) {
                    burden += f.tinesFor(f.rumours.coins[k]);
                }
            }
            return f.headBy(m, burden);
        }

        int fitNumber(int i) {
            int seen = 0;
            for (int set = 0; set < sets; set++) {
                if (weight[set] > 0) {
                    if (seen == i) {
                        return set;
                    }
                    seen++;
                }
            }
            return NONE;
        }

        long weightOfRumour(int k) {
            long sum = 0;
            for (int set = 0; set < sets; set++) {
                if ((set >> k & 1) != 0) {
                    sum += weight[set];
                }
            }
            return sum;
        }

        long weightOfHead(Facts f, Moment t, int m, int head) {
            long sum = 0;
            for (int set = 0; set < sets; set++) {
                if (headWith(f, t, m, set) == head) {
                    sum += weight[set];
                }
            }
            return sum;
        }

        int heaviest() {
            int best = NEVER;
            long most = 0;
            for (int set = 0; set < sets; set++) {
                if (weight[set] > most) {
                    most = weight[set];
                    best = set;
                }
            }
            return best;
        }

        int leftAtMost(Facts f, Moment t, int m) {
            for (int set = 0; set < sets; set++) {
                headBySet[set] = headWith(f, t, m, set);
            }
            int most = 0;
            for (int set = 0; set < sets; set++) {
                int alike = 0;
                for (int other = 0; other < sets; other++) {
                    if (weight[set] > 0 && weight[other] > 0 && headBySet[set] == headBySet[other]) {
                        alike++;
                    }
                }
                most = Math.max(most, alike);
            }
            return most;
        }
    }

    /** Springs to come with moths, in a copy of the moment. */
    private static final class Moths {
        final Moment dream = new Moment();
        int lost;

        void fly(Facts f, Moment now, int seed, int springs) {
            dream.copyOf(now);
            lost = 0;
            int drawn = seed;
            for (int n = 0; n < springs; n++) {
                dream.spring++;
                for (int m = 0; m < f.men; m++) {
                    if (f.headOf(dream, m, dream.spring) > 0) {
                        drawn = (75 * drawn + 74) % 65537;
                        if (drawn % 100 < f.moth) {
                            eatFirst(f, m);
                        }
                    }
                }
            }
        }

        private void eatFirst(Facts f, int m) {
            for (int k = 0; k < f.debts.count; k++) {
                if (f.debts.from[k] == m && f.isDue(dream, k, dream.spring)) {
                    int less = Math.min(f.tine, dream.left[k]);
                    dream.left[k] -= less;
                    lost += less;
                    return;
                }
            }
        }
    }
}
