import java.util.ArrayList;
import java.util.List;
import java.util.Random;

/** Many duchies by a fixed seed: AntlerYear's answers beside the Oracle's, ahead of and behind acts. */
public final class OracleTest {
    private static final String[] NAMES = {"abe", "b", "coins", "dovdovdo", "e", "great", "h", "hole", "wide", "zz"};

    private final Random random;
    private AntlerYear used = new AntlerYear();
    private int tellings = 0;

    private OracleTest(long seed) {
        random = new Random(seed);
    }

    public static void main(String[] args) {
        OracleTest test = new OracleTest(20261118);
        int told = 0;
        for (int i = 0; i < 6000; i++) {
            test.faulty(test.randomText(i));
        }
        for (int i = 0; i < 1200; i++) {
            String text = test.randomText(i);
            if (text.length() <= 900 && new Oracle(text).fault == 0) {
                told++;
                test.year(text);
            }
        }
        Check.due("enough duchies were told", told > 900, true);
        Check.end();
    }

    private int below(int n) {
        return random.nextInt(n);
    }

    private String randomText(int i) {
        StringBuilder text = new StringBuilder("duchy tine ").append(1 + below(below(2) == 0 ? 6 : 20));
        text.append(" errs ").append(below(4) == 0 ? 0 : below(4) == 0 ? 100 : below(101));
        text.append(" lock ").append(below(101)).append(" moth ").append(below(101));
        int men = 1 + below(5);
        int doors = below(5);
        List<String> lines = new ArrayList<>();
        for (int m = 0; m < men; m++) {
            lines.add("man " + NAMES[m] + " " + Oracle.KINDS.get(below(4)) + " coins " + below(100) + " strong " + below(10));
        }
        for (int d = 0; d < doors; d++) {
            lines.add("door " + NAMES[5 + d] + " wide " + below(1 + below(41)));
        }
        int most = 1 + below(below(2) == 0 ? 12 : 99);
        for (int k = below(8); k > 0 && men > 1; k--) {
            lines.add("owes " + two(men) + " " + (1 + below(most)) + " spring " + below(1 + below(10)));
        }
        for (int k = below(5); k > 0 && men > 1; k--) {
            lines.add("rumour " + two(men) + " " + (1 + below(most)) + " spring " + below(1 + below(4)));
        }
        for (int m = 0; m < men && doors > 0; m++) {
            if (below(3) > 0) {
                lines.add("invited " + NAMES[m] + " " + NAMES[5 + below(doors)]);
            }
        }
        int start = lines.size();
        for (int r = below(4); r > 0; r--) {
            lines.add("read " + NAMES[below(men)] + " " + below(1 + below(8)));
        }
        // A reading near a true head, so that sets fit.
        Oracle truth = new Oracle(text + ";" + String.join(";", lines.subList(0, start)));
        if (truth.fault == 0 && below(4) > 0) {
            lines.subList(start, lines.size()).clear();
            int set = below(1 << truth.rumours.size());
            for (int r = below(5); r > 0; r--) {
                int m = below(men);
                int told = truth.headWith(m, set) + (below(3) == 0 ? below(3) - 1 : 0);
                lines.add("read " + NAMES[m] + " " + Math.max(0, Math.min(40, told)));
            }
        }
        for (String line : lines) {
            text.append(';').append(below(9) == 0 ? " " : "").append(line).append(below(9) == 0 ? "  " : "");
        }
        return text.toString();
    }

    private String two(int men) {
        int a = below(men);
        int b = (a + 1 + below(men - 1)) % men;
        return NAMES[a] + " " + NAMES[b];
    }

    /** Breaks a text in one or two places; fault and place are the Oracle's. */
    private void faulty(String good) {
        String text = good;
        for (int n = 1 + below(2); n > 0; n--) {
            text = below(4) == 0 ? brokenByte(text) : brokenWord(text);
        }
        text = text.length() > 900 ? text.substring(0, 900) : text;
        Oracle want = new Oracle(text);
        AntlerYear x = new AntlerYear();
        int answer = Check.tell(x, text);
        Check.due("duchy of '" + text + "'", answer, want.fault == 0 ? want.men() : -1);
        Check.due("fault of '" + text + "'", x.fault(), want.fault);
        Check.due("where of '" + text + "'", x.where(), want.fault == 0 ? -1 : want.place);
        Check.due("trouble of '" + text + "'", x.trouble(), want.fault == 0 ? 0 : 4);
    }

    private String brokenByte(String text) {
        int at = below(text.length());
        String signs = "a z5;; ;\u00e9A.";
        char sign = signs.charAt(below(signs.length()));
        switch (below(4)) {
            case 0: return text.substring(0, at) + text.substring(at + 1);
            case 1: return text.substring(0, at) + sign + text.substring(at);
            case 2: return text.substring(0, Math.max(1, at));
            default: return text.substring(0, at) + sign + text.substring(at + 1);
        }
    }

    private String brokenWord(String text) {
        String[] words = text.replace(";", " ; ").trim().split(" +");
        String[] others = {"abe", "b", "e", "great", "hole", "man", "owes", "read", "door", "0", "10", "41", "100", "99",
            "1000", "duchy", ";", "lady", "coins", "spring", "abcdefghi", "nobody", "rumour", "invited"};
        int at = below(words.length);
        switch (below(4)) {
            case 0: words[at] = ""; break;
            case 1: words[at] = words[at] + " " + others[below(others.length)]; break;
            case 2: words[at] = words[below(words.length)]; break;
            default: words[at] = others[below(others.length)];
        }
        return String.join(" ", words).trim() + (below(5) == 0 ? " " : "");
    }

    private void year(String text) {
        Oracle o = new Oracle(text);
        AntlerYear x = again(text, o.men());
        compare(x, o, text);
        for (int n = 0; n < 3; n++) {
            StringBuilder acts = new StringBuilder(text).append(" | ");
            for (int a = 1 + below(3); a > 0; a--) {
                acts.append(act(x, o)).append(' ');
            }
            compare(x, o, acts.toString());
        }
    }

    /** The same object for some duchies, so that what an earlier one left behind would be seen. */
    private AntlerYear again(String text, int men) {
        tellings++;
        if (tellings % 20 == 0) {
            used = new AntlerYear();
        }
        Check.due("duchy of " + text, Check.tell(used, text), men);
        return used;
    }

    private String act(AntlerYear x, Oracle o) {
        int m = below(o.men());
        switch (below(4)) {
            case 0: {
                Check.due(x, "spring", x.spring(), o.headsIn(1), 0);
                o.spring++;
                return "spring";
            }
            case 1: {
                int k = below(7);
                int coins = below(3) == 0 ? below(101) : 1 + below(9);
                pay(x, o, k, coins);
                return "pay " + k + " " + coins;
            }
            case 2: {
                List<Integer> row = o.ring(m);
                int sum = row == null ? -1 : o.ringSum(row);
                Check.due(x, "letOff", x.letOff(m), sum, row == null ? 6 : 0);
                for (int i = 0; row != null && i < row.size(); i++) {
                    lessen(o, row.get(i), row.get((i + 1) % row.size()), sum);
                }
                return "letOff " + m;
            }
            default: {
                int sum = o.dueBetween(m, -1);
                Check.due(x, "shed", x.shed(m), sum == 0 ? -1 : sum, sum == 0 ? 5 : 0);
                lessen(o, m, -1, sum);
                return "shed " + m;
            }
        }
    }

    private void pay(AntlerYear x, Oracle o, int k, int coins) {
        int trouble = 0;
        if (k >= o.debts.size()) {
            trouble = 1;
        } else if (coins < 1 || coins > 99) {
            trouble = 2;
        } else if (!o.due(k, o.spring) || o.left.get(k) < coins) {
            trouble = 5;
        } else if (o.coins.get(o.debts.get(k).from()) < coins) {
            trouble = 6;
        } else {
            int from = o.debts.get(k).from();
            int to = o.debts.get(k).to();
            o.coins.set(from, o.coins.get(from) - coins);
            o.coins.set(to, o.coins.get(to) + coins);
            o.left.set(k, o.left.get(k) - coins);
        }
        Check.due(x, "pay", x.pay(k, coins), trouble == 0 ? o.left.get(k) : -1, trouble);
    }

    private void lessen(Oracle o, int from, int to, int sum) {
        int rest = sum;
        for (int k = 0; k < o.debts.size(); k++) {
            Oracle.Claim c = o.debts.get(k);
            while (rest > 0 && c.from() == from && (to < 0 || c.to() == to) && o.due(k, o.spring)) {
                o.left.set(k, o.left.get(k) - 1);
                rest--;
            }
        }
    }

    private void compare(AntlerYear x, Oracle o, String by) {
        int bald = 0;
        int best = 0;
        int worst = 0;
        List<Integer> led = new ArrayList<>();
        for (int m = 0; m < o.men(); m++) {
            bald |= o.headIn(m, 0) == 0 ? 1 << m : 0;
            best = o.headIn(m, 0) > o.headIn(best, 0) ? m : best;
            if (o.headIn(m, 0) > o.strong.get(m)) {
                led.add(m);
            }
            man(x, o, m, by);
        }
        for (int n = 0; n <= 20; n++) {
            worst = o.headsIn(n) > o.headsIn(worst) ? n : worst;
        }
        Check.due("heads, " + by, x.heads(), o.headsIn(0));
        Check.due("greatest, " + by, x.greatest(), best);
        Check.due("bald, " + by, x.bald(), bald);
        Check.due("worstSpring, " + by, x.worstSpring(), worst);
        for (int i = 0; i <= led.size(); i++) {
            Check.due("led " + i + ", " + by, Check.led(x, i), i < led.size() ? led.get(i) : Check.THREW);
        }
        for (int k = 0; k < o.debts.size(); k++) {
            Oracle.Claim c = o.debts.get(k);
            int tines = o.due(k, o.spring) ? o.tines(o.left.get(k)) : 0;
            int[] want = {c.from(), c.to(), o.left.get(k), c.spring(), tines > 0 ? 1 : 0, tines};
            for (int what = 0; what < 6; what++) {
                Check.due("debt " + k + " " + what + ", " + by, x.debt(k, what), want[what]);
            }
        }
        doors(x, o, by);
        rumours(x, o, by);
        chance(x, o, by);
    }

    private void man(AntlerYear x, Oracle o, int m, String by) {
        int[] want = {o.kinds.get(m), o.coins.get(m), o.strong.get(m), o.headIn(m, 0), o.burden(m, o.spring, o.left),
            o.dueBetween(m, -1), o.dueBetween(-1, m), o.owed(m)};
        for (int what = 0; what < 8; what++) {
            Check.due("man " + m + " " + what + ", " + by, x.man(m, what), want[what]);
        }
        int n = below(21);
        Check.due("headIn " + m + " " + n + ", " + by, x.headIn(m, n), o.headIn(m, n));
        int head = below(30);
        int first = -2;
        for (int s = 20; s >= 0; s--) {
            first = o.headIn(m, s) >= head ? s : first;
        }
        Check.due("when " + m + " " + head + ", " + by, x.when(m, head), first);
        Check.due("cheapest " + m + ", " + by, x.cheapest(m), o.cheapest(m));
        Check.due("reach " + m + ", " + by, x.reach(m), o.reach(m));
        List<Integer> row = o.ring(m);
        Check.due("ring " + m + ", " + by, x.ring(m), row == null ? -2 : row.size());
        Check.due("ringSum " + m + ", " + by, x.ringSum(m), row == null ? -2 : o.ringSum(row));
        for (int i = 0; i <= 5; i++) {
            Check.due("ringAt " + m + " " + i + ", " + by, x.ringAt(m, i), row == null || i >= row.size() ? -1 : row.get(i));
        }
    }

    private void doors(AntlerYear x, Oracle o, String by) {
        int[] row = o.guests();
        int sum = 0;
        int passers = 0;
        int shamed = 0;
        int bestRing = -2;
        int most = 0;
        for (int m = 0; m < o.men(); m++) {
            for (int d = 0; d < o.wide.size(); d++) {
                int shut = -2;
                for (int s = 20; s >= 0; s--) {
                    shut = o.headIn(m, s) > o.wide.get(d) ? s : shut;
                }
                int toll = o.payFor(m, d);
                Check.due("shutIn " + m + " " + d + ", " + by, x.shutIn(m, d), shut);
                Check.due("payFor " + m + " " + d + ", " + by, x.payFor(m, d), toll);
                if (o.invited.getOrDefault(m, -1) == d) {
                    passers |= shut == 0 ? 0 : 1 << m;
                    shamed |= toll == -2 ? 1 << m : 0;
                    sum += toll;
                }
            }
            Check.due("doorOf " + m + ", " + by, x.doorOf(m), row[m]);
            List<Integer> ring = o.ring(m);
            if (ring != null && o.ringSum(ring) * ring.size() > most) {
                most = o.ringSum(ring) * ring.size();
                bestRing = m;
            }
        }
        for (int d = 0; d < o.wide.size(); d++) {
            int pass = 0;
            int in = 0;
            for (int m = 0; m < o.men(); m++) {
                pass |= o.headIn(m, 0) <= o.wide.get(d) ? 1 << m : 0;
                in |= o.invited.getOrDefault(m, -1) == d ? 1 << m : 0;
            }
            Check.due("door " + d + " 0, " + by, x.door(d, 0), o.wide.get(d));
            Check.due("door " + d + " 1, " + by, x.door(d, 1), pass);
            Check.due("door " + d + " 2, " + by, x.door(d, 2), in);
        }
        Check.due("guests, " + by, x.guests(), row[o.men()]);
        Check.due("payAll, " + by, x.payAll(), shamed != 0 ? -2 : sum);
        Check.due("passers, " + by, x.passers(), passers);
        Check.due("shamed, " + by, x.shamed(), shamed);
        Check.due("bestRing, " + by, x.bestRing(), bestRing);
        for (int n = 0; n <= o.men(); n++) {
            Check.due("widthFor " + n + ", " + by, x.widthFor(n), o.widthFor(n));
        }
    }

    private void odds(String what, long upper, long lower, Oracle.Odds want) {
        Check.due(what + " upper", upper, want.upper().longValueExact());
        Check.due(what + " lower", lower, want.lower().longValueExact());
    }

    private void rumours(AntlerYear x, Oracle o, String by) {
        List<Integer> fits = o.fits();
        Check.due("fits, " + by, x.fits(), fits.size());
        for (int i = 0; i <= fits.size(); i++) {
            Check.due("fitAt " + i + ", " + by, x.fitAt(i), i < fits.size() ? fits.get(i) : -1);
        }
        for (int k = 0; k < o.rumours.size(); k++) {
            int bit = 1 << k;
            odds("likely " + k + ", " + by, x.likely(k, false), x.likely(k, true), o.odds(set -> (set & bit) != 0));
        }
        for (int m = 0; m < o.men(); m++) {
            int man = m;
            int head = Math.min(99, o.headWith(m, below(1 << o.rumours.size())));
            odds("headIs " + m + " " + head + ", " + by, x.headIs(m, head, false), x.headIs(m, head, true),
                o.odds(set -> o.headWith(man, set) == head));
        }
        Check.due("likeliest, " + by, x.likeliest(), o.likeliest());
        Check.due("look, " + by, x.look(), o.look());
        Check.due("lookLeaves, " + by, x.lookLeaves(), o.look() == -2 ? -2 : o.leaves(o.look()));
        Check.due("judge, " + by, x.judge(), o.judge());
    }

    private void chance(AntlerYear x, Oracle o, String by) {
        int n = below(9);
        odds("locked " + n + ", " + by, x.locked(n, false), x.locked(n, true), o.locked(n));
        odds("weeks " + n + ", " + by, x.weeks(n, false), x.weeks(n, true), o.weeks(n));
        int seed = below(65537);
        int springs = below(21);
        int[] heads = o.moths(seed, springs);
        for (int m = 0; m < o.men(); m++) {
            Check.due("moths " + m + " " + seed + " " + springs + ", " + by, x.moths(m, seed, springs), heads[m]);
        }
        Check.due("eaten " + seed + " " + springs + ", " + by, x.eaten(seed, springs), heads[o.men()]);
        for (int m = 0; m < o.men(); m++) {
            for (int other = 0; other < o.men(); other++) {
                int sum = below(below(2) == 0 ? 8 : 100);
                if (m != other) {
                    dispute(x, o, m, other, sum, by);
                }
            }
        }
    }

    private void dispute(AntlerYear x, Oracle o, int m, int other, int sum, String by) {
        String what = m + " " + other + " " + sum + ", " + by;
        List<Integer> rests = o.rests(m, other, sum);
        Check.due("rests " + what, x.rests(m, other, sum), rests.size());
        Check.due("rest " + what, x.rest(m, other, sum), rests.isEmpty() ? -2 : rests.get(0));
        for (int i = 0; i < 4; i++) {
            int[] has = o.shares(m, other, sum, i > 1, i % 2 == 1);
            Check.due("duel " + what, x.duel(m, other, sum, i > 1, i % 2 == 1, false), has[0]);
            Check.due("duel of other " + what, x.duel(m, other, sum, i > 1, i % 2 == 1, true), has[1]);
        }
    }
}
