import java.math.BigInteger;
import java.util.ArrayList;
import java.util.HashMap;
import java.util.List;
import java.util.Map;

/** The document once more, in its dullest form and with the whole library: what AntlerYear is compared with. */
final class Oracle {
    record Claim(int from, int to, int coins, int spring) {
    }

    record Read(int man, int head) {
    }

    record Odds(BigInteger upper, BigInteger lower) {
        static Odds of(BigInteger upper, BigInteger lower) {
            if (upper.signum() == 0 || lower.signum() == 0) {
                return new Odds(BigInteger.ZERO, BigInteger.ONE);
            }
            BigInteger g = upper.gcd(lower);
            return new Odds(upper.divide(g), lower.divide(g));
        }
    }

    static final Map<String, List<String>> LINES = new HashMap<>();

    static {
        LINES.put("duchy", List.of("tine", "1..20", "errs", "0..100", "lock", "0..100", "moth", "0..100"));
        LINES.put("man", List.of("NEW", "KIND", "coins", "0..99", "strong", "0..9"));
        LINES.put("owes", List.of("MAN", "OTHER", "1..99", "spring", "0..9"));
        LINES.put("rumour", List.of("MAN", "OTHER", "1..99", "spring", "0..9"));
        LINES.put("door", List.of("NEW", "wide", "0..40"));
        LINES.put("invited", List.of("FREE", "DOOR"));
        LINES.put("read", List.of("MAN", "0..40"));
    }

    static final Map<String, Integer> ROOM = Map.of("man", 5, "owes", 7, "rumour", 4, "door", 4, "read", 4);
    static final List<String> KINDS = List.of("common", "lady", "duke", "freak");

    int fault;
    int place;
    int tine;
    int errs;
    int lock;
    int moth;
    final List<String> menNames = new ArrayList<>();
    final List<String> doorNames = new ArrayList<>();
    final List<Integer> kinds = new ArrayList<>();
    final List<Integer> strong = new ArrayList<>();
    final List<Integer> coins = new ArrayList<>();
    final List<Claim> debts = new ArrayList<>();
    final List<Integer> left = new ArrayList<>();
    final List<Claim> rumours = new ArrayList<>();
    final List<Integer> wide = new ArrayList<>();
    final Map<Integer, Integer> invited = new HashMap<>();
    final List<Read> reads = new ArrayList<>();
    int spring;

    /** Reads a text by the table of lines; fault and place tell how it went. */
    Oracle(String text) {
        int at = 0;
        boolean inLine = true;
        String line = null;
        List<String> words = new ArrayList<>();
        Map<String, Integer> count = new HashMap<>();
        while (true) {
            while (at < text.length() && text.charAt(at) == ' ') {
                at++;
            }
            String token = tokenAt(text, at);
            boolean between = line != null && words.size() == LINES.get(line).size();
            if (between) {
                put(line, words);
                line = null;
                inLine = false;
            }
            if (token.isEmpty()) {
                place = text.length();
                fault = inLine ? 1 : menNames.isEmpty() ? 6 : 0;
                return;
            }
            int bad;
            if (!inLine) {
                bad = token.equals(";") ? 0 : 1;
                inLine = true;
                words.clear();
            } else if (line == null) {
                bad = badStart(token, count);
                line = token;
                count.merge(token, 1, Integer::sum);
            } else {
                bad = badWord(LINES.get(line).get(words.size()), token, words);
                words.add(token);
            }
            if (bad != 0) {
                fault = bad;
                place = at;
                return;
            }
            at += token.length();
        }
    }

    private static String tokenAt(String text, int at) {
        int end = at;
        if (at >= text.length()) {
            return "";
        }
        String letters = "abcdefghijklmnopqrstuvwxyz";
        String digits = "0123456789";
        String sort = letters.indexOf(text.charAt(at)) >= 0 ? letters : digits.indexOf(text.charAt(at)) >= 0 ? digits : "";
        while (end < text.length() && sort.indexOf(text.charAt(end)) >= 0) {
            end++;
        }
        return sort.isEmpty() ? text.substring(at, at + 1) : text.substring(at, end);
    }

    private static boolean isWord(String token) {
        return token.matches("[a-z]{1,8}");
    }

    private int badStart(String token, Map<String, Integer> count) {
        if (!LINES.containsKey(token)) {
            return 1;
        }
        if (token.equals("duchy")) {
            return count.containsKey("duchy") ? 3 : 0;
        }
        if (!count.containsKey("duchy")) {
            return 6;
        }
        return count.getOrDefault(token, 0) >= ROOM.getOrDefault(token, 99) ? 5 : 0;
    }

    private int badWord(String must, String token, List<String> words) {
        if (must.contains("..")) {
            if (!token.matches("[0-9]{1,3}")) {
                return 1;
            }
            int low = Integer.parseInt(must.substring(0, must.indexOf('.')));
            int high = Integer.parseInt(must.substring(must.lastIndexOf('.') + 1));
            int value = Integer.parseInt(token);
            return value < low || value > high ? 4 : 0;
        }
        if (must.equals("KIND")) {
            return KINDS.contains(token) ? 0 : 1;
        }
        if (must.equals(must.toLowerCase())) {
            return must.equals(token) ? 0 : 1;
        }
        if (!isWord(token) || LINES.containsKey(token)) {
            return 1;
        }
        boolean man = menNames.contains(token);
        boolean door = doorNames.contains(token);
        switch (must) {
            case "NEW": return man || door ? 3 : 0;
            case "DOOR": return door ? 0 : 2;
            case "MAN": return man ? 0 : 2;
            case "OTHER": return man ? token.equals(words.get(0)) ? 3 : 0 : 2;
            default: return man ? invited.containsKey(menNames.indexOf(token)) ? 3 : 0 : 2;
        }
    }

    private void put(String line, List<String> w) {
        switch (line) {
            case "duchy":
                tine = Integer.parseInt(w.get(1));
                errs = Integer.parseInt(w.get(3));
                lock = Integer.parseInt(w.get(5));
                moth = Integer.parseInt(w.get(7));
                break;
            case "man":
                menNames.add(w.get(0));
                kinds.add(KINDS.indexOf(w.get(1)));
                coins.add(Integer.parseInt(w.get(3)));
                strong.add(Integer.parseInt(w.get(5)));
                break;
            case "door":
                doorNames.add(w.get(0));
                wide.add(Integer.parseInt(w.get(2)));
                break;
            case "invited":
                invited.put(menNames.indexOf(w.get(0)), doorNames.indexOf(w.get(1)));
                break;
            case "read":
                reads.add(new Read(menNames.indexOf(w.get(0)), Integer.parseInt(w.get(1))));
                break;
            default:
                Claim c = new Claim(menNames.indexOf(w.get(0)), menNames.indexOf(w.get(1)), Integer.parseInt(w.get(2)),
                    Integer.parseInt(w.get(4)));
                if (line.equals("owes")) {
                    debts.add(c);
                    left.add(c.coins());
                } else {
                    rumours.add(c);
                }
        }
    }

    int men() {
        return menNames.size();
    }

    boolean due(int k, int when) {
        return debts.get(k).spring() <= when && left.get(k) > 0;
    }

    int tines(int sum) {
        int n = 0;
        while (n * tine < sum) {
            n++;
        }
        return n;
    }

    int head(int kind, int burden) {
        return kind == 0 ? burden : kind == 1 ? 0 : kind == 2 ? burden + burden : burden - burden / 2;
    }

    int burden(int m, int when, List<Integer> rest) {
        int sum = 0;
        for (int k = 0; k < debts.size(); k++) {
            if (debts.get(k).from() == m && debts.get(k).spring() <= when) {
                sum += tines(rest.get(k));
            }
        }
        return sum;
    }

    int headIn(int m, int n) {
        return head(kinds.get(m), burden(m, spring + n, left));
    }

    int headsIn(int n) {
        int sum = 0;
        for (int m = 0; m < men(); m++) {
            sum += headIn(m, n);
        }
        return sum;
    }

    int dueBetween(int from, int to) {
        int sum = 0;
        for (int k = 0; k < debts.size(); k++) {
            Claim c = debts.get(k);
            if ((from < 0 || c.from() == from) && (to < 0 || c.to() == to) && due(k, spring)) {
                sum += left.get(k);
            }
        }
        return sum;
    }

    int owed(int m) {
        int bits = 0;
        for (int o = 0; o < men(); o++) {
            bits |= dueBetween(m, o) > 0 ? 1 << o : 0;
        }
        return bits;
    }

    /** The fewest coins that bring a man's head to a width, by trying what is paid of each debt. */
    int toll(int m, int width) {
        int most = 7 * 99;
        int[] least = new int[most + 1];
        java.util.Arrays.fill(least, Integer.MAX_VALUE);
        least[0] = 0;
        for (int k = 0; k < debts.size(); k++) {
            if (debts.get(k).from() != m || !due(k, spring)) {
                continue;
            }
            int[] next = new int[most + 1];
            java.util.Arrays.fill(next, Integer.MAX_VALUE);
            for (int b = 0; b <= most; b++) {
                if (least[b] != Integer.MAX_VALUE) {
                    for (int paid = 0; paid <= left.get(k); paid++) {
                        int then = b + tines(left.get(k) - paid);
                        next[then] = Math.min(next[then], least[b] + paid);
                    }
                }
            }
            least = next;
        }
        int best = Integer.MAX_VALUE;
        for (int b = 0; b <= most; b++) {
            if (least[b] != Integer.MAX_VALUE && head(kinds.get(m), b) <= width) {
                best = Math.min(best, least[b]);
            }
        }
        return best;
    }

    int payFor(int m, int d) {
        int toll = toll(m, wide.get(d));
        return toll <= coins.get(m) ? toll : -2;
    }

    int cheapest(int m) {
        int best = -2;
        int cost = 1000;
        for (int k = 0; k < debts.size(); k++) {
            if (debts.get(k).from() == m && due(k, spring)) {
                int c = 0;
                while (tines(left.get(k) - c) == tines(left.get(k))) {
                    c++;
                }
                if (c < cost) {
                    cost = c;
                    best = k;
                }
            }
        }
        return best;
    }

    int widthFor(int n) {
        for (int w = 0; ; w++) {
            int pass = 0;
            for (int m = 0; m < men(); m++) {
                pass += headIn(m, 0) <= w ? 1 : 0;
            }
            if (pass >= n) {
                return w;
            }
        }
    }

    /** The first row, in the order of rows, with the most guests; none is counted as one door behind all. */
    int[] guests() {
        int base = wide.size() + 1;
        int all = 1;
        for (int m = 0; m < men(); m++) {
            all *= base;
        }
        int[] best = null;
        int most = -1;
        for (int number = 0; number < all; number++) {
            int[] row = new int[men()];
            int rest = number;
            for (int m = men() - 1; m >= 0; m--) {
                row[m] = rest % base;
                rest /= base;
            }
            int count = 0;
            boolean good = true;
            for (int m = 0; m < men(); m++) {
                if (row[m] < wide.size()) {
                    count++;
                    good &= headIn(m, 0) <= wide.get(row[m]);
                    for (int o = 0; o < m; o++) {
                        good &= row[o] != row[m];
                    }
                }
            }
            if (good && count > most) {
                most = count;
                best = row;
            }
        }
        int[] answer = new int[men() + 1];
        for (int m = 0; m < men(); m++) {
            answer[m] = best[m] == wide.size() ? -2 : best[m];
        }
        answer[men()] = most;
        return answer;
    }

    List<Integer> ring(int m) {
        List<List<Integer>> found = new ArrayList<>();
        walk(m, new ArrayList<>(List.of(m)), found);
        List<Integer> best = null;
        for (List<Integer> row : found) {
            if (best == null || row.size() < best.size()
                || row.size() == best.size() && row.toString().compareTo(best.toString()) < 0) {
                best = row;
            }
        }
        return best;
    }

    private void walk(int home, List<Integer> row, List<List<Integer>> found) {
        int at = row.get(row.size() - 1);
        for (int next = 0; next < men(); next++) {
            if (dueBetween(at, next) > 0) {
                if (next == home) {
                    found.add(new ArrayList<>(row));
                } else if (!row.contains(next)) {
                    row.add(next);
                    walk(home, row, found);
                    row.remove(row.size() - 1);
                }
            }
        }
    }

    int ringSum(List<Integer> row) {
        int least = Integer.MAX_VALUE;
        for (int i = 0; i < row.size(); i++) {
            least = Math.min(least, dueBetween(row.get(i), row.get((i + 1) % row.size())));
        }
        return least;
    }

    int reach(int m) {
        int bits = 0;
        List<Integer> open = new ArrayList<>(List.of(m));
        while (!open.isEmpty()) {
            int at = open.remove(0);
            for (int o = 0; o < men(); o++) {
                if (dueBetween(at, o) > 0 && (bits >> o & 1) == 0) {
                    bits |= 1 << o;
                    open.add(o);
                }
            }
        }
        return bits;
    }

    int headWith(int m, int set) {
        int sum = burden(m, spring, left);
        for (int k = 0; k < rumours.size(); k++) {
            Claim c = rumours.get(k);
            if ((set & 1 << k) != 0 && c.from() == m && c.spring() <= spring) {
                sum += tines(c.coins());
            }
        }
        return head(kinds.get(m), sum);
    }

    /** In two-hundredths: the mass that a reader puts on what was read. */
    int mass(Read r, int set) {
        int[] told = new int[2000];
        int h = headWith(r.man(), set);
        told[h] += 2 * (100 - errs);
        if (h == 0) {
            told[1] += 2 * errs;
        } else {
            told[h + 1] += errs;
            told[h - 1] += errs;
        }
        return told[r.head()];
    }

    BigInteger weight(int set) {
        BigInteger w = BigInteger.ONE;
        for (Read r : reads) {
            w = w.multiply(BigInteger.valueOf(mass(r, set)));
        }
        return w;
    }

    List<Integer> fits() {
        List<Integer> sets = new ArrayList<>();
        for (int set = 0; set < 1 << rumours.size(); set++) {
            if (weight(set).signum() > 0) {
                sets.add(set);
            }
        }
        return sets;
    }

    Odds odds(java.util.function.IntPredicate wanted) {
        BigInteger upper = BigInteger.ZERO;
        BigInteger all = BigInteger.ZERO;
        for (int set : fits()) {
            all = all.add(weight(set));
            upper = wanted.test(set) ? upper.add(weight(set)) : upper;
        }
        return Odds.of(upper, all);
    }

    int likeliest() {
        int best = -2;
        for (int set : fits()) {
            if (best == -2 || weight(set).compareTo(weight(best)) > 0) {
                best = set;
            }
        }
        return best;
    }

    int leaves(int m) {
        Map<Integer, Integer> groups = new HashMap<>();
        int most = 0;
        for (int set : fits()) {
            most = Math.max(most, groups.merge(headWith(m, set), 1, Integer::sum));
        }
        return most;
    }

    int look() {
        if (fits().isEmpty()) {
            return -2;
        }
        int best = 0;
        for (int m = 1; m < men(); m++) {
            best = leaves(m) < leaves(best) ? m : best;
        }
        return best;
    }

    int judge() {
        for (int r = 0; r < reads.size(); r++) {
            if (mass(reads.get(r), 0) == 0) {
                return r;
            }
        }
        return -2;
    }

    int[] shares(int m, int o, int sum, boolean mf, boolean of) {
        if (!mf && !of) {
            return new int[] {sum / 2, sum / 2};
        }
        if (mf && of) {
            int by = Integer.compare(strong.get(m), strong.get(o));
            return by > 0 ? new int[] {sum - 3, -3} : by < 0 ? new int[] {-3, sum - 3} : new int[] {-3, -3};
        }
        return mf ? new int[] {sum, 0} : new int[] {0, sum};
    }

    List<Integer> rests(int m, int o, int sum) {
        List<Integer> all = new ArrayList<>();
        for (boolean mf : new boolean[] {false, true}) {
            for (boolean of : new boolean[] {false, true}) {
                int[] has = shares(m, o, sum, mf, of);
                if (shares(m, o, sum, !mf, of)[0] <= has[0] && shares(m, o, sum, mf, !of)[1] <= has[1]) {
                    all.add((mf ? 10 : 0) + (of ? 1 : 0));
                }
            }
        }
        return all;
    }

    Odds locked(int n) {
        return Odds.of(BigInteger.valueOf(lock).pow(n), BigInteger.valueOf(100).pow(n));
    }

    Odds weeks(int n) {
        BigInteger sum = BigInteger.ZERO;
        for (int i = 1; i <= n; i++) {
            sum = sum.add(BigInteger.valueOf(lock).pow(i).multiply(BigInteger.valueOf(100).pow(n - i)));
        }
        return Odds.of(sum, BigInteger.valueOf(100).pow(n));
    }

    /** Heads of all men behind n springs with moths, and last what was eaten. */
    int[] moths(long seed, int n) {
        List<Integer> rest = new ArrayList<>(left);
        int eaten = 0;
        for (int s = spring + 1; s <= spring + n; s++) {
            for (int m = 0; m < men(); m++) {
                if (head(kinds.get(m), burden(m, s, rest)) == 0) {
                    continue;
                }
                seed = (75 * seed + 74) % 65537;
                if (seed % 100 >= moth) {
                    continue;
                }
                int k = 0;
                while (debts.get(k).from() != m || debts.get(k).spring() > s || rest.get(k) == 0) {
                    k++;
                }
                int less = rest.get(k) < tine ? rest.get(k) : tine;
                eaten += less;
                rest.set(k, rest.get(k) - less);
            }
        }
        int[] answer = new int[men() + 1];
        for (int m = 0; m < men(); m++) {
            answer[m] = head(kinds.get(m), burden(m, spring + n, rest));
        }
        answer[men()] = eaten;
        return answer;
    }
}
