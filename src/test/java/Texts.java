/** Texts of duchies, put together from short rows; men are a, b, c, d, e and doors p, q, r, s. */
final class Texts {
    static final String PLAIN = "duchy tine 1 errs 0 lock 0 moth 0";

    private static final String MEN = "abcde";
    private static final String DOORS = "pqrs";

    private Texts() {
    }

    static String duchy(int tine, int errs, int lock, int moth) {
        return "duchy tine " + tine + " errs " + errs + " lock " + lock + " moth " + moth;
    }

    /** Each row: kind, coins, strength. */
    static String men(String... rows) {
        StringBuilder text = new StringBuilder();
        for (int m = 0; m < rows.length; m++) {
            String[] words = rows[m].split(" ");
            text.append(";man ").append(MEN.charAt(m)).append(' ').append(words[0]).append(" coins ").append(words[1])
                .append(" strong ").append(words[2]);
        }
        return text.toString();
    }

    /** So many common men without coins and strength. */
    static String commons(int count) {
        String[] rows = new String[count];
        java.util.Arrays.fill(rows, "common 0 0");
        return men(rows);
    }

    /** Each row: who, whom, coins, spring. */
    static String owes(String... rows) {
        return claims("owes", rows);
    }

    static String rumours(String... rows) {
        return claims("rumour", rows);
    }

    private static String claims(String line, String... rows) {
        StringBuilder text = new StringBuilder();
        for (String row : rows) {
            int at = row.lastIndexOf(' ');
            text.append(';').append(line).append(' ').append(row, 0, at).append(" spring").append(row.substring(at));
        }
        return text.toString();
    }

    static String doors(int... widths) {
        StringBuilder text = new StringBuilder();
        for (int d = 0; d < widths.length; d++) {
            text.append(";door ").append(DOORS.charAt(d)).append(" wide ").append(widths[d]);
        }
        return text.toString();
    }

    /** Each row: a man and a door. */
    static String invited(String... rows) {
        return rows.length == 0 ? "" : ";invited " + String.join(";invited ", rows);
    }

    /** Each row: a man and what was read. */
    static String reads(String... rows) {
        return rows.length == 0 ? "" : ";read " + String.join(";read ", rows);
    }
}
