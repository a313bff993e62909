import com.sun.management.ThreadMXBean;
import java.lang.management.ManagementFactory;

/**
 * All calls of a run live in one room of some 7.3 million fields and elements, and nothing there is ever thrown
 * away: an object's dearest run, of 512 calls, has to stay far below that.
 */
public final class RoomTest {
    private static final ThreadMXBean THREADS = (ThreadMXBean) ManagementFactory.getThreadMXBean();
    private static final String FACTS = "fact a 3 0 mine; fact b 3 1 yours; fact c 3 2; fact d 3 0 mine; fact e 2 0 yours; fact f 1 0;"
            + "goes a = b; goes b = c+day; goes c = d; goes d = if a<b then 3-a else a+1; goes e = 2-e; slips 10;";
    private static final String PAGES = "page p all a=b and c<3 and q=0; page q some p=4 and a+b>c; page r part a>0 and a>1 and a>2;"
            + "page s part b>0 and b>1 and b>2 and r>2; page t part c+d>2 and e>0 and f=1 and t<2; page u part p>0 and this<3;";

    public static void main(String[] args) {
        sample();
        long made = sample();
        System.out.println("a new object: " + made + " bytes");
        Due.is("a new object is small", made < 60_000, true);
        dearest();
        moreAndMoreWorlds();
        Due.end();
    }

    private static long bytes() {
        return THREADS.getThreadAllocatedBytes(Thread.currentThread().getId());
    }

    private static long sample() {
        long from = bytes();
        TrueInk x = new TrueInk();
        long made = bytes() - from;
        Due.is("new", x.count(0), 0);
        return made;
    }

    private static void dearest() {
        TrueInk x = Due.told(FACTS + PAGES);
        long from = bytes();
        for (int i = 0; i < 20; i++) {
            everything(x, i);
        }
        long made = bytes() - from;
        System.out.println("some 500 dear calls: " + made + " bytes");
        Due.is("dear calls make little", made < 600_000, true);
    }

    private static int everything(TrueInk x, int i) {
        int sum = x.stands(-1) + x.stands(i) + x.least(i % 6, 1) + x.when(i % 6) + x.stays(i % 6) + x.longest(i % 6, 300);
        sum += x.changed(300) + x.shade(i % 6, 299) + x.blackIn(i % 6) + x.grey(i % 6, true) + x.weight(i % 6, i % 6);
        sum += x.weakest(i % 6, 1) + x.bestWorld(0) + x.again(0) + x.twins(30 - i, 1) + x.rests(0, 1, i) + x.hopes(2, 30, 5);
        sum += x.see(i % 6, i, 0) + x.fits(i, -1) + x.sure(i) + x.next(i, 30, 0) + x.fewest(30, 0) + x.days(3);
        x.set(0, i % 4);
        x.hold(i % 3);
        return sum;
    }

    /** Texts with ever more worlds on one object: rows that were made for fewer are made anew, but seldom. */
    private static void moreAndMoreWorlds() {
        TrueInk x = new TrueInk();
        long from = bytes();
        int reads = 0;
        for (int a = 1; a <= 3; a++) {
            for (int b = 1; b <= 3; b++) {
                for (int c = 1; c <= 3; c++) {
                    String text = "fact a " + a + " 0;fact b " + b + " 0;fact c " + c + " 0;fact d 3 0;fact e 3 0;page p all a=b and c=d;";
                    reads += Due.read(x, text) == 0 ? 1 : 0;
                    x.twins(30, 0);
                    x.fewest(3, 0);
                    x.blackIn(0);
                    x.rests(0, 0, -1);
                }
            }
        }
        long made = bytes() - from;
        System.out.println("texts with more and more worlds: " + made + " bytes");
        Due.is("reads", reads, 27);
        Due.is("few rows anew", made < 1_500_000, true);
    }
}
