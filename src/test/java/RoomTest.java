import com.sun.management.ThreadMXBean;
import java.lang.management.ManagementFactory;

/** No call makes an object: all rows are made once, with the object itself. */
public final class RoomTest {
    private RoomTest() {
    }

    public static void main(String[] args) {
        ThreadMXBean beans = (ThreadMXBean) ManagementFactory.getThreadMXBean();
        long self = Thread.currentThread().getId();
        AntlerYear[] years = new AntlerYear[400];
        int[][] words = words(Check.BASE);
        long sum = year(new AntlerYear(), words);
        long ahead = beans.getThreadAllocatedBytes(self);
        for (int i = 0; i < years.length; i++) {
            years[i] = new AntlerYear();
        }
        long made = beans.getThreadAllocatedBytes(self);
        for (AntlerYear year : years) {
            Check.due("like answers", year(year, words), sum);
        }
        long behind = beans.getThreadAllocatedBytes(self);
        System.out.println((made - ahead) / years.length + " bytes an object, " + (behind - made) + " by all calls");
        Check.due("an object is small", (made - ahead) / years.length < 12000, true);
        Check.due("calls make nothing", behind - made < 100000, true);
        Check.end();
    }

    private static int[][] words(String text) {
        byte[] bytes = text.getBytes(java.nio.charset.StandardCharsets.ISO_8859_1);
        int[][] words = new int[(bytes.length + 19) / 20][5];
        for (int i = 0; i < words.length * 5; i++) {
            words[i / 5][i % 5] = Check.four(bytes, 4 * i);
        }
        return words;
    }

    private static long year(AntlerYear x, int[][] words) {
        for (int[] w : words) {
            x.feed(w[0], w[1], w[2], w[3], w[4]);
        }
        long sum = x.duchy(Check.BASE.length());
        for (int n = 0; n < 4; n++) {
            for (int m = 0; m < 4; m++) {
                sum = sum * 31 + x.man(m, 7) + x.debt(m, 5) + x.door(m, 1) + x.headIn(m, 3) + x.when(m, 3)
                    + x.shutIn(m, 1) + x.payFor(m, 1) + x.cheapest(m) + x.widthFor(m) + x.doorOf(m) + x.ring(m)
                    + x.ringAt(m, 1) + x.ringSum(m) + x.reach(m) + x.fitAt(m) + x.likely(m, true)
                    + x.headIs(m, 3, false) + x.rests(m, 0, 7) + x.rest(m, 0, 7) + x.moths(m, 5, 20) + x.size(m);
            }
            sum = sum * 31 + x.heads() + x.greatest() + x.bald() + x.worstSpring() + x.payAll() + x.passers()
                + x.shamed() + x.guests() + x.bestRing() + x.fits() + x.likeliest() + x.look() + x.lookLeaves()
                + x.judge() + x.locked(8, true) + x.weeks(8, true) + x.eaten(9, 20) + x.pay(0, 1) + x.letOff(0)
                + x.spring() + x.image() + x.shed(n) + (x.undo() ? 1 : 0) + (n == 2 && x.back(1) ? 1 : 0);
        }
        return sum;
    }
}
