/** Each promise by itself, with answers that can be worked out by hand. */
public final class PromisesTest {
    public static void main(String[] args) {
        newObject();
        feedAndBack();
        readKeepsAndClears();
        facts();
        pages();
        expressions();
        settled();
        wild();
        days();
        laws();
        slips();
        setByHand();
        wiped();
        undone();
        worlds();
        stands();
        least();
        daysAhead();
        limitsAhead();
        inAllWorlds();
        bestWorld();
        again();
        twins();
        rests();
        hopes();
        seen();
        fits();
        next();
        fewest();
        slots();
        counts();
        askedFirst();
        allBlack();
        textAfterText();
        Due.end();
    }

    private static void newObject() {
        TrueInk x = new TrueInk();
        for (int w = 0; w <= 12; w++) {
            Due.is("new: count(" + w + ")", x.count(w), 0);
        }
        Due.is("new: NONE", TrueInk.NONE, -1);
        Due.is("new: place()", x.place(), -1);
        Due.is("new: fact(0)", x.fact(0), -1);
        Due.is("new: page(0, 0)", x.page(0, 0), -1);
        Due.is("new: undo()", x.undo(), false);
        Due.is("new: days(0)", x.days(0), 0);
        Due.is("new: world(1)", x.world(1), 1);
        Due.is("new: stands(NONE)", x.stands(-1), 1);
        Due.is("new: again(0)", x.again(0), 1);
        Due.is("new: twins(30, 1)", x.twins(30, 1), -2);
        Due.is("new: next(0, 30, 1)", x.next(0, 30, 1), -2);
        Due.is("new: fewest(30, 1)", x.fewest(30, 1), 0);
        Due.is("new: bestWorld(2)", x.bestWorld(2), 0);
        Due.is("new: hold(2)", x.hold(2), true);
        Due.is("new: restore(2)", x.restore(2), true);
    }

    private static void feedAndBack() {
        TrueInk x = new TrueInk();
        for (int i = 1; i <= 100; i++) {
            Due.is("feed " + i, x.feed(0x20202020, 0x20202020, 0x20202020, 0x20202020, 0x20202020), 20 * i);
        }
        Due.is("feed 101", x.feed(0, 0, 0, 0, 0), -1);
        Due.is("bytes", x.count(7), 2000);
        Due.is("back(2001)", x.back(2001), -1);
        Due.is("back(-1)", x.back(-1), -1);
        Due.is("back(MIN)", x.back(Integer.MIN_VALUE), -1);
        Due.is("back(MAX)", x.back(Integer.MAX_VALUE), -1);
        Due.is("back(0)", x.back(0), 2000);
        Due.is("back(19)", x.back(19), 1981);
        Due.is("feed over", x.feed(0, 0, 0, 0, 0), -1);
        Due.is("back(1)", x.back(1), 1980);
        Due.is("feed again", x.feed(0x66616374, 0x20612033, 0x20323b73, 0x6c697073, 0x2037373b), 2000);
        Due.is("read 2000", x.read(), 0);
        Due.is("the last 20 bytes", x.fact(0), 2);
        Due.is("and their end", x.count(3), 77);
        Due.is("tape", x.count(7), 0);
        Due.is("back(1) of none", x.back(1), -1);
        Due.is("back(0) of none", x.back(0), 0);
        x.feed(0x66616374, 0x20612033, 0x20322020, 0x20202020, 0x202020ff);
        Due.is("byte 255", x.read(), 1);
        Due.is("its place", x.place(), 19);
    }

    private static void readKeepsAndClears() {
        TrueInk x = Due.told("fact a 3 1; page p all a=2;");
        x.set(0, 2);
        x.days(4);
        x.wipe(0, true);
        x.see(0, 0, 4);
        x.hold(1);
        Due.is("with a fault", Due.read(x, "fact b 9 0;"), 5);
        Due.is("place", x.place(), 7);
        Due.is("fact as it was", x.fact(0), 2);
        Due.is("day as it was", x.count(2), 4);
        Due.is("wiped as it was", x.count(6), 1);
        Due.is("undo as it was", x.count(8), 3);
        Due.is("seen as it was", x.count(9), 1);
        Due.is("slots as they were", x.count(10), 1);
        Due.is("undo", x.undo(), true);
        Due.is("black again", x.page(0, 0), 4);
        Due.is("without", Due.read(x, "fact b 1 1; page q all b=1;"), 0);
        Due.is("place", x.place(), -1);
        Due.is("fact as told", x.fact(0), 1);
        Due.is("settled from white", x.page(0, 0), 4);
        Due.is("steps", x.settled(1), 1);
        for (int w : new int[] {2, 3, 5, 6, 7, 8, 9, 10, 11, 12}) {
            Due.is("count(" + w + ")", x.count(w), 0);
        }
        Due.is("nothing to be undone", x.undo(), false);
        Due.is("nothing held", x.restore(1), false);
        Due.is("empty text", x.read(), 0);
        Due.is("no facts", x.count(0), 0);
        Due.is("no pages", x.count(1), 0);
    }

    private static void facts() {
        TrueInk x = Due.told("fact a 3 2; fact b 1 0; fact c 2 1;");
        Due.is("fact(0)", x.fact(0), 2);
        Due.is("fact(1)", x.fact(1), 0);
        Due.is("fact(2)", x.fact(2), 1);
        Due.is("fact(3)", x.fact(3), -1);
        Due.is("fact(-1)", x.fact(-1), -1);
    }

    private static void pages() {
        TrueInk x = Due.told("fact a 2 1; page p part a=1 and 1/(a-1)=0 and a>1; page q all a=1 and this<9; page r some a=0 and 2=2;");
        int[] due = {1, 0, 1, 3, 1, 1, 0};
        for (int w = 0; w < 7; w++) {
            Due.is("page(0, " + w + ")", x.page(0, w), due[w]);
        }
        Due.is("page(0, 7)", x.page(0, 7), -1);
        Due.is("page(0, -1)", x.page(0, -1), -1);
        Due.is("page(3, 0)", x.page(3, 0), -1);
        Due.is("page(-1, 0)", x.page(-1, 0), -1);
        Due.is("all true", x.page(1, 0), 4);
        Due.is("none untrue", x.page(1, 4), -2);
        Due.is("none senseless", x.page(1, 5), -2);
        Due.is("some true", x.page(2, 0), 4);
        Due.is("first untrue", x.page(2, 4), 0);
        x.wipe(0, true);
        Due.is("wiped: shade", x.page(0, 0), 0);
        Due.is("wiped: true ones", x.page(0, 2), 1);
        Due.is("wiped: senseless", x.page(0, 5), 1);
        Due.is("wiped", x.page(0, 6), 1);
        TrueInk y = Due.told("page p part 1=1 and 2=2 and 3=3 and 4=4 and 5=5 and 6=0; page q part 1=1 and 1=0;"
                + "page r part 1=1 and 1=0 and 1=0 and 1=0 and 1=0; page s all 1=1 and 1/0=1; page t some 1/0=1 and 1/0>0;");
        Due.is("5 of 6", y.page(0, 0), 3);
        Due.is("1 of 2", y.page(1, 0), 2);
        Due.is("1 of 5", y.page(2, 0), 0);
        Due.is("no sense is not true", y.page(3, 0), 0);
        Due.is("nor to some", y.page(4, 0), 0);
    }

    private static void claim(String claim, boolean holds) {
        TrueInk x = Due.told("fact a 3 3; page p all " + claim + "; page q part a>1 and a=0;");
        Due.is(claim, x.page(0, 2), holds ? 1 : 0);
    }

    private static void expressions() {
        claim("1+2*3=7", true);
        claim("(1+2)*3=9", true);
        claim("7-3-2=2", true);
        claim("7-(3-2)=6", true);
        claim("64/4/2=8", true);
        claim("64/(4/2)=32", true);
        claim("2*7/2*3=21", true);
        claim("1+6/4*2-1=2", true);
        claim("(0-7)/2=0-3", true);
        claim("7/(0-2)=0-3", true);
        // 99980001 * 22 is 2199560022, above the greatest int by 52076374 and 1.
        claim("9999*9999*22<0", true);
        claim("9999*9999*22+9999*9999*21>0", true);
        claim("9999*9999*22-256*256*128*256=9999*5208+1582", true);
        claim("((((((1))))))=1", true);
        claim("1<1", false);
        claim("1>1", false);
        claim("0<1", true);
        claim("1>0", true);
        claim("0=1", false);
        claim("a=3", true);
        claim("q=2", true);
        claim("day=0", true);
        claim("1/0=1/0", false);
        claim("0*(1/0)=0", false);
        claim("1/(a-3)<9", false);
        claim("0/(a-2)=0", true);
        // 65536 * 32768 is 2^31, which wraps to the least int; by -1 it stays that.
        claim("256*256*128*256<0", true);
        claim("(256*256*128*256)/(0-1)<0", true);
        claim("256*256*256*256=0", true);
    }

    private static void settledAs(String text, int how, int steps, int round, int flickers) {
        TrueInk x = Due.told(text);
        Due.is("how: " + text, x.settled(0), how);
        Due.is("steps: " + text, x.settled(1), steps);
        Due.is("round: " + text, x.settled(2), round);
        Due.is("flickers: " + text, x.count(5), flickers);
        for (int p = 0; p < x.count(1); p++) {
            Due.is("flicker of " + p + ": " + text, x.page(p, 1), flickers >> p & 1);
        }
        Due.is("settled(3)", x.settled(3), -1);
        Due.is("settled(-1)", x.settled(-1), -1);
    }

    private static void settled() {
        settledAs("page p all 1=0;", 0, 0, 0, 0);
        settledAs("page p all 1=1; page q all p=4; page r all q=4;", 0, 3, 0, 0);
        settledAs("page r all q=4; page q all p=4; page p all 1=1;", 0, 3, 0, 0);
        settledAs("page p all this=0;", 1, 2, 2, 1);
        settledAs("page p all q=4 and this=0; page q all 1=1;", 1, 3, 2, 1);
        settledAs("page p all q=0; page q all p=0;", 1, 2, 2, 3);
        settledAs("page p all q=4; page q all r=4; page r all p=0;", 1, 6, 6, 7);
        settledAs("page c part this<4 and this*(4-this)>0 and (this-1)*(4-this)>0 and this=3;", 1, 5, 5, 1);
    }

    /** Counts 0 .. 4 round and, by b, the fives of it; by m 0 .. 3; by n 0 .. 2: it all comes back behind 300 steps. */
    private static final String COUNTER = "page a part this<4 and this*(4-this)>0 and (this-1)*(4-this)>0 and this=3;"
            + "page b part T*(5-T)>0 and (T-1)*(5-T)>0 and (T-2)*(5-T)>0 and T=4;".replace("T", "(this+a/4)")
            + "page m part this<3 and this*(3-this)>0 and this=2 and 1=0; page n part this<2 and this=1 and 1=0 and 1=0;";

    private static void wild() {
        settledAs(COUNTER, 1, 300, 300, 15);
        settledAs(COUNTER + "page t all 1=1;", 2, 300, 0, 0);
        TrueInk x = Due.told(COUNTER);
        Due.is("come back", x.count(4), 0);
        Due.is("to white", x.page(1, 0), 0);
        TrueInk y = Due.told(COUNTER + "page t all 1=1;");
        // 300 steps on, all counters are at 0 again, but t is black.
        Due.is("wild: a", y.page(0, 0), 0);
        Due.is("wild: t", y.page(4, 0), 4);
        // From there on t stays, so all comes round.
        y.wipe(0, true);
        y.undo();
        Due.is("wild again: how", y.settled(0), 2);
        y.days(1);
        Due.is("round now", y.settled(0), 1);
        Due.is("in 300", y.settled(2), 300);
        Due.is("all but t", y.count(5), 15);
    }

    private static void days() {
        TrueInk x = Due.told(Samples.ROUND);
        Due.is("days(0)", x.days(0), 0);
        Due.is("no thing done", x.count(8), 0);
        Due.is("days(-1)", x.days(-1), -1);
        Due.is("days(101)", x.days(101), -1);
        Due.is("nothing happened", x.count(2) + x.count(8), 0);
        Due.is("days(1)", x.days(1), 1);
        Due.is("fact", x.fact(0), 1);
        Due.is("half", x.page(4, 0), 2);
        Due.is("days(100)", x.days(100), 101);
        Due.is("fact", x.fact(0), 1);
        Due.is("days(5)", x.days(5), 106);
        Due.is("fact", x.fact(0), 2);
        Due.is("black", x.count(4), 1 + 2 + 8 + 16);
        Due.is("things done", x.count(8), 3);
        Due.is("days(0)", x.days(0), 106);
        Due.is("the last settling", x.settled(1), 1);
    }

    private static void law(String told, String goes, int... due) {
        TrueInk x = Due.told(told + " page p all day<1; page q part 1=1 and 1=0; goes a = " + goes + ";");
        for (int d = 0; d < due.length; d++) {
            Due.is(goes + " on day " + d, x.fact(0), due[d]);
            x.days(1);
        }
    }

    private static void laws() {
        law("fact a 3 0;", "a+1", 0, 1, 2, 3, 3);
        law("fact a 2 0;", "9999", 0, 2, 2);
        law("fact a 3 2;", "a-5", 2, 0, 0);
        law("fact a 3 2;", "1/(a-2)", 2, 2, 2);
        law("fact a 3 1;", "if 0<1 then 3 else 1/0", 1, 3, 3);
        law("fact a 3 1;", "if 1<0 then 1/0 else 2", 1, 2, 2);
        law("fact a 3 1;", "if 1/0<1 then 3 else 2", 1, 1, 1);
        law("fact a 3 1;", "if 0<1 then 2 else if 1/0<1 then 3 else 0", 1, 2, 2);
        law("fact a 3 1;", "if 1<0 then 2 else if 0<1/0 then 3 else 0", 1, 1, 1);
        law("fact a 3 0;", "if a<1 then 2 else if a<3 then 1+2 else 0", 0, 2, 3, 0, 2);
        law("fact a 3 0;", "if 0<0 then 1 else if 1<1 then 1 else if 2<2 then 1 else if 3<4 then 2 else 1", 0, 2);
        law("fact a 3 0;", "day*2", 0, 0, 2, 3);
        law("fact a 3 0;", "p-1", 0, 3, 0, 0);
        law("fact a 3 0;", "q+day", 0, 2, 3);
        law("fact a 3 1; goes a = 1/0;", "3", 1, 3);
        TrueInk x = Due.told("fact a 3 1; fact b 3 2; fact c 3 3; goes a = b; goes b = a; goes a = b+0;");
        x.days(1);
        Due.is("all at once: a", x.fact(0), 2);
        Due.is("all at once: b", x.fact(1), 1);
        Due.is("no law: c", x.fact(2), 3);
        TrueInk y = Due.told("fact a 3 0; goes a = p; page p all a=0;");
        y.days(1);
        Due.is("by shades as they are", y.fact(0), 3);
        Due.is("settled then", y.page(0, 0), 0);
    }

    private static void slips() {
        TrueInk x = Due.told("fact a 2 0; fact b 3 3; goes b = 1; slips 100;");
        int[] as = {1, 2, 0, 1};
        for (int d = 0; d < 4; d++) {
            x.days(1);
            Due.is("slips each day: a", x.fact(0), as[d]);
            Due.is("behind its law: b", x.fact(1), 2);
        }
        TrueInk y = Due.told("fact a 3 0; fact b 2 1; fact c 1 0; slips 30; seed 4711;");
        int[] facts = {0, 1, 0};
        int[] most = {3, 2, 1};
        int slipped = 0;
        for (int d = 0; d < 60; d++) {
            for (int f = 0; f < 3; f++) {
                if (Due.lot(4711, 8 * d + f) < 30) {
                    facts[f] = facts[f] == most[f] ? 0 : facts[f] + 1;
                    slipped++;
                }
            }
            y.days(1);
            for (int f = 0; f < 3; f++) {
                Due.is("fact " + f + " on day " + (d + 1), y.fact(f), facts[f]);
            }
        }
        Due.is("some slipped, some not", slipped > 20 && slipped < 100, true);
        TrueInk u = Due.told("fact a 1 0; slips 50;");
        int a = 0;
        for (int d = 0; d < 20; d++) {
            a = Due.lot(0, 8 * d) < 50 ? 1 - a : a;
            u.days(1);
            Due.is("seed 0 if not told, on day " + (d + 1), u.fact(0), a);
        }
        Due.is("read behind another seed", Due.read(u, "seed 77;") + Due.read(u, "fact a 1 0; slips 50;"), 0);
        u.days(20);
        Due.is("seed 0 again", u.fact(0), a);
        TrueInk z = Due.told("fact a 3 0; slips 100; slips 0; seed 1;");
        z.days(50);
        Due.is("the last slips", z.fact(0), 0);
    }

    private static void setByHand() {
        TrueInk x = Due.told("fact a 2 1; fact b 3 0; page p all a=2 and b=0;");
        Due.is("as it is", x.set(0, 1), false);
        Due.is("too much", x.set(0, 3), false);
        Due.is("below 0", x.set(0, -1), false);
        Due.is("no such fact", x.set(2, 0), false);
        Due.is("no such fact", x.set(-1, 0), false);
        Due.is("nothing done", x.count(8), 0);
        Due.is("set", x.set(0, 2), true);
        Due.is("fact", x.fact(0), 2);
        Due.is("settled", x.page(0, 0), 4);
        Due.is("steps", x.settled(1), 1);
        Due.is("day", x.count(2), 0);
        Due.is("set b", x.set(1, 3), true);
        Due.is("white", x.page(0, 0), 0);
        TrueInk y = Due.told("fact a 1 0; page p some a=1 and this=4;");
        y.set(0, 1);
        y.set(0, 0);
        Due.is("from the shades as they are", y.page(0, 0), 4);
    }

    private static void wiped() {
        TrueInk x = Due.told("page p all 1=1; page q all p=0; page r some this=4 and p=4;");
        Due.is("black", x.count(4), 5);
        Due.is("not wiped", x.wipe(0, false), false);
        Due.is("no such page", x.wipe(3, true), false);
        Due.is("no such page", x.wipe(-1, true), false);
        Due.is("nothing done", x.count(8), 0);
        Due.is("wipe", x.wipe(0, true), true);
        Due.is("is wiped", x.wipe(0, true), false);
        Due.is("wiped ones", x.count(6), 1);
        Due.is("black then", x.count(4), 6);
        Due.is("steps", x.settled(1), 2);
        Due.is("written anew", x.wipe(0, false), true);
        Due.is("black as it was", x.count(4), 5);
        Due.is("none wiped", x.count(6), 0);
        x.wipe(1, true);
        x.days(1);
        Due.is("stays wiped", x.page(1, 6), 1);
        Due.is("and white", x.page(1, 0), 0);
    }

    private static void undone() {
        TrueInk x = Due.told("fact a 3 0; page p all this=0 and a=1; page q all a=0;");
        x.set(0, 1);
        Due.is("blinks", x.settled(0), 1);
        x.wipe(0, true);
        Due.is("settles", x.settled(0), 0);
        x.days(7);
        Due.is("three things", x.count(8), 3);
        Due.is("undo days", x.undo(), true);
        Due.is("day", x.count(2), 0);
        Due.is("undo wipe", x.undo(), true);
        Due.is("not wiped", x.count(6), 0);
        Due.is("it had blinked", x.settled(0), 1);
        Due.is("it flickered", x.count(5), 1);
        Due.is("undo set", x.undo(), true);
        Due.is("fact", x.fact(0), 0);
        Due.is("page", x.page(1, 0), 4);
        Due.is("no more", x.undo(), false);
        for (int i = 1; i <= 60; i++) {
            x.set(0, i % 4);
        }
        Due.is("50 at most", x.count(8), 50);
        for (int i = 59; i >= 10; i--) {
            Due.is("undo", x.undo(), true);
            Due.is("as it was", x.fact(0), i % 4);
        }
        Due.is("the 51st", x.undo(), false);
        Due.is("none left", x.count(8), 0);
        Due.is("as behind the tenth", x.fact(0), 2);
    }

    private static void worlds() {
        TrueInk x = Due.told("fact a 2 1; fact b 1 1; fact c 3 2;");
        Due.is("world(0)", x.world(0), 1 + 3 + 6 * 2);
        Due.is("world(1)", x.world(1), 24);
        Due.is("world(2)", x.world(2), -1);
        Due.is("world(-1)", x.world(-1), -1);
        x.set(2, 0);
        Due.is("world(0)", x.world(0), 4);
    }

    private static void stands() {
        TrueInk x = Due.told("page p" + Samples.ANY + "page q all p>1; page r some this=4 and p=0;");
        // p is anything, q as p tells; r may be black, and must be where p is white.
        int[] sorted = {1, 22, 23, 24, 100, 101, 122, 123, 124};
        Due.is("how many", x.stands(-1), sorted.length);
        for (int i = 0; i < sorted.length; i++) {
            Due.is("stands(" + i + ")", x.stands(i), sorted[i]);
        }
        Due.is("no more", x.stands(sorted.length), -1);
        Due.is("stands(-2)", x.stands(-2), -1);
        Due.is("stands(MAX)", x.stands(Integer.MAX_VALUE), -1);
        x.wipe(0, true);
        Due.is("p wiped", x.stands(-1), 1);
        Due.is("r is black", x.stands(0), 100);
        TrueInk y = Due.told("page a" + Samples.ANY + "page b" + Samples.ANY + "page c" + Samples.ANY + "page d" + Samples.ANY + "page e" + Samples.ANY + "page f" + Samples.ANY);
        Due.is("all", y.stands(-1), 15625);
        Due.is("first", y.stands(0), 0);
        Due.is("some", y.stands(7777), 7777);
        Due.is("last", y.stands(15624), 15624);
        Due.is("none behind", y.stands(15625), -1);
        TrueInk z = Due.told("fact a 1 0; page p all this=a*4; page l all this=0;");
        Due.is("a liar never stands", z.stands(-1), 0);
        Due.is("so there is no first", z.stands(0), -1);
        TrueInk u = Due.told("fact a 1 0; page p some this=4 and a=1; goes a = 1;");
        Due.is("two", u.stands(-1), 2);
        u.days(1);
        Due.is("one", u.stands(-1), 1);
        Due.is("black", u.stands(0), 4);
        u.undo();
        Due.is("two again", u.stands(-1), 2);
    }

    private static void least() {
        TrueInk x = Due.told("fact a 1 0; fact b 1 0; fact c 1 0; page p all a+b+c>1; page q all a+b>5; page r all a=0;");
        Due.is("two facts", x.least(0, 0), 2);
        Due.is("the least world", x.least(0, 1), 3);
        Due.is("none", x.least(1, 0), -2);
        Due.is("none", x.least(1, 1), -2);
        Due.is("as it is", x.least(2, 0), 0);
        Due.is("world as it is", x.least(2, 1), 0);
        Due.is("no such page", x.least(3, 0), -1);
        Due.is("no such what", x.least(0, 2), -1);
        Due.is("no such what", x.least(0, -1), -1);
        x.set(2, 1);
        Due.is("one fact", x.least(0, 0), 1);
        Due.is("the least", x.least(0, 1), 5);
        x.set(0, 1);
        Due.is("black", x.least(0, 0), 0);
        Due.is("where it is", x.least(0, 1), 5);
        x.wipe(0, true);
        Due.is("a wiped one", x.least(0, 0), -2);
        TrueInk e = Due.told("fact a 1 0;fact b 1 0;fact c 1 0;fact d 1 0;fact e 1 0;fact f 1 0;fact g 1 0;fact h 1 0;"
                + "page p all a+b+c+d+e+f+g+h=8;");
        Due.is("all eight", e.least(0, 0), 8);
        Due.is("the last world", e.least(0, 1), 255);
        // It blinks, and has come round to white: only as it is, without settling anew, could it be black.
        TrueInk y = Due.told("fact a 1 0; page p all this=0; page q all this=0 and a=1;");
        Due.is("liar", y.least(0, 0), -2);
        y.wipe(0, true);
        y.wipe(0, false);
        Due.is("liar", y.page(0, 0), 0);
        // White it would stay black once it is: settling goes from the shades as they are.
        TrueInk z = Due.told("fact a 1 0; fact b 1 0; page p some a=1 and this=4 and b>1;");
        z.set(0, 1);
        z.set(0, 0);
        Due.is("stays black", z.least(0, 0), 0);
    }

    private static void daysAhead() {
        TrueInk x = Due.told(Samples.ROUND);
        int[] whens = {2, 0, -2, 0, 2};
        int[] stays = {0, 3, 0, 300, 0};
        for (int p = 0; p < 5; p++) {
            Due.is("when(" + p + ")", x.when(p), whens[p]);
            Due.is("stays(" + p + ")", x.stays(p), stays[p]);
        }
        Due.is("when(5)", x.when(5), -1);
        Due.is("when(-1)", x.when(-1), -1);
        Due.is("stays(5)", x.stays(5), -1);
        Due.is("stays(-1)", x.stays(-1), -1);
        int[] longest = {1, 2, 3, 3, 3, 3, 3, 3, 3};
        for (int n = 0; n < longest.length; n++) {
            Due.is("longest(1, " + n + ")", x.longest(1, n), longest[n]);
        }
        Due.is("longest(4, 3)", x.longest(4, 3), 2);
        Due.is("longest(4, 2)", x.longest(4, 2), 1);
        Due.is("longest(4, 1)", x.longest(4, 1), 0);
        Due.is("longest(3, 300)", x.longest(3, 300), 301);
        Due.is("longest(3, 301)", x.longest(3, 301), -1);
        Due.is("longest(3, -1)", x.longest(3, -1), -1);
        Due.is("longest(5, 0)", x.longest(5, 0), -1);
        int[] changed = {0, 16, 17, 18, 0, 16};
        for (int n = 0; n < changed.length; n++) {
            Due.is("changed(" + n + ")", x.changed(n), changed[n]);
        }
        Due.is("changed(300)", x.changed(300), 0);
        Due.is("changed(301)", x.changed(301), -1);
        Due.is("changed(-1)", x.changed(-1), -1);
        int[] half = {0, 2, 4, 4, 0};
        for (int n = 0; n < half.length; n++) {
            Due.is("shade(4, " + n + ")", x.shade(4, n), half[n]);
        }
        Due.is("shade(4, 300)", x.shade(4, 300), 0);
        Due.is("shade(4, 301)", x.shade(4, 301), -1);
        Due.is("shade(4, -1)", x.shade(4, -1), -1);
        Due.is("shade(5, 0)", x.shade(5, 0), -1);
        Due.is("nothing happened", x.count(2) + x.count(8) + x.fact(0), 0);
        x.days(1);
        Due.is("from now on", x.when(0), 1);
        x.set(0, 3);
        Due.is("from now on", x.when(0), 3);
        x.undo();
        Due.is("from now on", x.when(0), 1);
        x.wipe(0, true);
        Due.is("wiped", x.when(0), -2);
    }

    private static void limitsAhead() {
        TrueInk x = Due.told("page a all day=300; page b all day=301; page c all day<299; page d all day<300;"
                + "page e all day<301; page f all day>0 and day<9;");
        Due.is("when 300", x.when(0), 300);
        Due.is("when 301", x.when(1), -2);
        Due.is("stays 299", x.stays(2), 299);
        Due.is("stays 300", x.stays(3), 300);
        Due.is("stays longer", x.stays(4), 300);
        Due.is("stays not at all", x.stays(5), 0);
        Due.is("longest 8", x.longest(5, 300), 8);
        Due.is("shade on the last day", x.shade(0, 300), 4);
        x.days(1);
        Due.is("when 299", x.when(0), 299);
        Due.is("when 300", x.when(1), 300);
        Due.is("stays 298", x.stays(2), 298);
    }

    private static void inAllWorlds() {
        TrueInk x = Due.told(Samples.ROUND);
        int[] black = {1, 3, 0, 4, 2};
        int[] above = {1, 3, 0, 1, 5};
        int[] below = {4, 4, 1, 1, 8};
        int[] weight = {2, 2, 0, 0, 3};
        for (int p = 0; p < 5; p++) {
            Due.is("blackIn(" + p + ")", x.blackIn(p), black[p]);
            Due.is("grey above of " + p, x.grey(p, false), above[p]);
            Due.is("grey below of " + p, x.grey(p, true), below[p]);
            Due.is("weight(" + p + ", 0)", x.weight(p, 0), weight[p]);
        }
        Due.is("blackIn(5)", x.blackIn(5), -1);
        Due.is("blackIn(-1)", x.blackIn(-1), -1);
        Due.is("grey of 5", x.grey(5, true), -1);
        Due.is("grey of -1", x.grey(-1, false), -1);
        Due.is("weight(5, 0)", x.weight(5, 0), -1);
        Due.is("weight(0, 1)", x.weight(0, 1), -1);
        Due.is("weight(0, -1)", x.weight(0, -1), -1);
        TrueInk y = Due.told("fact a 3 0; fact b 1 0; page w part a>0 and a>2 and a<3 and 1/(b-1)<0; page v all a<2 and a>1; "
                + "page u some this=0 and a=b;");
        Due.is("weakest(0, 0)", y.weakest(0, 0), 1);
        Due.is("weakest(0, 1)", y.weakest(0, 1), 6);
        Due.is("of alike ones the first", y.weakest(1, 0), 0);
        Due.is("in how many", y.weakest(1, 1), 4);
        // In two worlds u blinks and comes round to white, so that this=0 holds there too.
        Due.is("by shades as they are then", y.weakest(2, 0), 1);
        Due.is("in how many", y.weakest(2, 1), 6);
        Due.is("weakest(3, 0)", y.weakest(3, 0), -1);
        Due.is("weakest(0, 2)", y.weakest(0, 2), -1);
        Due.is("weakest(0, -1)", y.weakest(0, -1), -1);
        Due.is("weight of b", y.weight(0, 1), 8);
        TrueInk z = Due.told("fact a 1 0; page p some a=1 and this=4;");
        Due.is("from white", z.blackIn(0), 1);
        z.set(0, 1);
        Due.is("from black", z.blackIn(0), 2);
        Due.is("grey", z.grey(0, true), 1);
        z.wipe(0, true);
        Due.is("wiped", z.blackIn(0), 0);
    }

    private static void bestWorld() {
        TrueInk x = Due.told(Samples.ROUND);
        Due.is("its number", x.bestWorld(0), 2);
        Due.is("black ones", x.bestWorld(1), 4);
        Due.is("to be set", x.bestWorld(2), 1);
        Due.is("bestWorld(3)", x.bestWorld(3), -1);
        Due.is("bestWorld(-1)", x.bestWorld(-1), -1);
        TrueInk y = Due.told("fact a 1 1; fact b 1 1; fact c 1 0; page p all a+b+c=1;");
        Due.is("fewest facts", y.bestWorld(2), 1);
        Due.is("then the least", y.bestWorld(0), 1);
        y.set(0, 0);
        Due.is("none", y.bestWorld(2), 0);
        Due.is("as it is", y.bestWorld(0), 2);
        TrueInk z = Due.told("fact a 1 1; page p all a>3;");
        Due.is("none black: as it is", z.bestWorld(0), 1);
        Due.is("none black", z.bestWorld(1), 0);
        Due.is("none to be set", z.bestWorld(2), 0);
    }

    private static void again() {
        TrueInk x = Due.told(Samples.ROUND);
        Due.is("behind", x.again(0), 4);
        Due.is("as behind", x.again(1), 0);
        Due.is("again(2)", x.again(2), -1);
        Due.is("again(-1)", x.again(-1), -1);
        TrueInk y = Due.told("fact a 3 0; goes a = a+1;");
        Due.is("behind", y.again(0), 4);
        Due.is("as behind", y.again(1), 3);
        TrueInk z = Due.told("fact a 1 0; page p all day<5;");
        Due.is("shades count, the day does not", z.again(0), 1);
        TrueInk w = Due.told("page p all day>0 and day<3; page q all day=2;");
        // White, p, both, white.
        Due.is("behind", w.again(0), 3);
        Due.is("as behind", w.again(1), 0);
        Due.is("301", Due.told(Samples.countTo300(0)).again(0), -2);
        Due.is("301", Due.told(Samples.countTo300(0)).again(1), -2);
        Due.is("300", Due.told(Samples.countTo300(1)).again(0), 300);
        Due.is("as behind 299", Due.told(Samples.countTo300(1)).again(1), 299);
    }

    private static void twins() {
        TrueInk x = Due.told("fact a 3 0; fact b 1 0; page p part a>0 and a>1 and a>2; page q all b=1; "
                + "goes a = if a<2 then a else 2; goes b = 0;");
        Due.is("all unlike", x.twins(0, 0), -2);
        Due.is("all unlike", x.twins(0, 1), -2);
        // Behind a day 2 and 3 are alike, and b tells nothing; the first one that is like a lesser one is 3.
        Due.is("lesser", x.twins(1, 0), 2);
        Due.is("other", x.twins(1, 1), 3);
        Due.is("twins(31, 0)", x.twins(31, 0), -1);
        Due.is("twins(-1, 0)", x.twins(-1, 0), -1);
        Due.is("twins(0, 2)", x.twins(0, 2), -1);
        Due.is("twins(0, -1)", x.twins(0, -1), -1);
        x.set(0, 3);
        x.wipe(0, true);
        x.days(3);
        Due.is("in the beginning, nothing by hand", x.twins(0, 0), -2);
        Due.is("behind 30", x.twins(30, 1), 3);
        TrueInk y = Due.told("fact a 3 0;");
        Due.is("no pages", y.twins(0, 0), 0);
        Due.is("no pages", y.twins(0, 1), 1);
        TrueInk z = Due.told("fact a 3 0; page p all a=1; page q all a=2;");
        Due.is("the first such one", z.twins(0, 0), 0);
        Due.is("of 3", z.twins(0, 1), 3);
    }

    private static void rests() {
        TrueInk x = Due.told("fact a 1 0 mine; fact b 1 0 yours; fact c 1 0; page m all a=b; page y all a+b=9; page z all a=1;");
        Due.is("how many", x.rests(0, 1, -1), 2);
        Due.is("first", x.rests(0, 1, 0), 1);
        Due.is("second", x.rests(0, 1, 1), 2);
        Due.is("no more", x.rests(0, 1, 2), -1);
        Due.is("i below NONE", x.rests(0, 1, -2), -1);
        Due.is("the other way", x.rests(1, 0, -1), 2);
        // z is mine to whiten: a=0; then you whiten m by b=1.
        Due.is("m mine, z yours", x.rests(0, 2, -1), 1);
        Due.is("which", x.rests(0, 2, 0), 2);
        // m is mine to whiten, z yours to, who cannot.
        Due.is("z mine, m yours", x.rests(2, 0, -1), 2);
        Due.is("which", x.rests(2, 0, 1), 2);
        x.set(2, 1);
        Due.is("others as they are", x.rests(0, 1, 0), 5);
        Due.is("others as they are", x.rests(0, 1, 1), 6);
        Due.is("one and the same", x.rests(1, 1, -1), -1);
        Due.is("no such page", x.rests(3, 0, -1), -1);
        Due.is("no such page", x.rests(0, 3, -1), -1);
        Due.is("no such page", x.rests(-1, 0, -1), -1);
        // Both want what the other does not: there is no rest.
        TrueInk p = Due.told("fact a 1 0 mine; fact b 1 0 yours; page m all a=b; page y some a<b and a>b;");
        Due.is("none", p.rests(0, 1, -1), 0);
        Due.is("so no first", p.rests(0, 1, 0), -1);
        TrueInk n = Due.told("fact a 2 1; page m all a=1; page y all a=2;");
        Due.is("nobody's: as it is", n.rests(0, 1, -1), 1);
        Due.is("which", n.rests(0, 1, 0), 1);
    }

    private static void hopes() {
        TrueInk x = Due.told("fact a 1 0; slips 50; seed 9990; page p all a=1; page q all a=0;");
        int due = 0;
        for (int s = 1; s <= 20; s++) {
            due += Due.lot(9990 + s - 1, 0) < 50 ? 1 : 0;
            Due.is("hopes(0, 1, " + s + ")", x.hopes(0, 1, s), due);
            Due.is("hopes(1, 1, " + s + ")", x.hopes(1, 1, s), s - due);
        }
        Due.is("some do, some do not", due > 0 && due < 20, true);
        Due.is("as it is", x.hopes(0, 0, 20), 0);
        Due.is("as it is", x.hopes(1, 0, 20), 20);
        Due.is("s 0", x.hopes(0, 1, 0), -1);
        Due.is("s 21", x.hopes(0, 1, 21), -1);
        Due.is("n -1", x.hopes(0, -1, 1), -1);
        Due.is("n 101", x.hopes(0, 101, 1), -1);
        Due.is("page 2", x.hopes(2, 1, 1), -1);
        Due.is("page -1", x.hopes(-1, 1, 1), -1);
        Due.is("s 1 is as it goes", x.hopes(0, 77, 1), x.shade(0, 77) == 4 ? 1 : 0);
        x.days(3);
        int later = 0;
        for (int s = 0; s < 20; s++) {
            int a = x.fact(0);
            for (int d = 3; d < 5; d++) {
                a = Due.lot(9990 + s, 8 * d) < 50 ? 1 - a : a;
            }
            later += a;
        }
        Due.is("from now on", x.hopes(0, 2, 20), later);
        Due.is("no slips: all or none", Due.told(Samples.ROUND).hopes(0, 2, 13), 13);
        Due.is("no slips: all or none", Due.told(Samples.ROUND).hopes(0, 100, 13), 0);
        Due.is("no slips: n 100", Due.told(Samples.ROUND).hopes(1, 100, 1), 1);
    }

    private static void seen() {
        TrueInk x = Due.told(Samples.ROUND);
        Due.is("no such page", x.see(5, 0, 0), -1);
        Due.is("no such page", x.see(-1, 0, 0), -1);
        Due.is("n 31", x.see(0, 31, 0), -1);
        Due.is("n -1", x.see(0, -1, 0), -1);
        Due.is("shade 5", x.see(0, 0, 5), -1);
        Due.is("shade -1", x.see(0, 0, -1), -1);
        Due.is("none seen", x.count(9), 0);
        for (int i = 0; i < 20; i++) {
            Due.is("see", x.see(i % 5, 30 - i, i % 5), i);
        }
        Due.is("the 21st", x.see(0, 0, 0), -1);
        Due.is("seen", x.count(9), 20);
        Due.is("nothing to be undone", x.undo(), false);
        Due.is("forget", x.forget(), 20);
        Due.is("none seen", x.count(9), 0);
        Due.is("forget", x.forget(), 0);
        Due.is("see", x.see(0, 0, 0), 0);
    }

    private static void fits() {
        TrueInk x = Due.told("fact a 3 0; fact b 1 0; page p all a<2; page q all a=1; goes a = if a<3 then a+1 else 0;");
        x.see(0, 0, 4);
        x.see(1, 1, 4);
        x.see(1, 1, 0);
        Due.is("by none", x.fits(0, -1), 8);
        Due.is("the last", x.fits(0, 7), 7);
        Due.is("no more", x.fits(0, 8), -1);
        Due.is("sure by none", x.sure(0), 0);
        int[] one = {0, 1, 4, 5};
        Due.is("by one", x.fits(1, -1), 4);
        for (int i = 0; i < 4; i++) {
            Due.is("fits(1, " + i + ")", x.fits(1, i), one[i]);
        }
        Due.is("no more", x.fits(1, 4), -1);
        Due.is("i below NONE", x.fits(1, -2), -1);
        Due.is("sure by one", x.sure(1), 0);
        Due.is("by two", x.fits(2, -1), 2);
        Due.is("fits(2, 1)", x.fits(2, 1), 4);
        Due.is("sure by two", x.sure(2), 1);
        Due.is("none fit", x.fits(3, -1), 0);
        Due.is("none fit", x.fits(3, 0), -1);
        Due.is("sure of none", x.sure(3), 0);
        Due.is("no such k", x.fits(4, -1), -1);
        Due.is("no such k", x.fits(-1, -1), -1);
        Due.is("no such k", x.sure(4), -1);
        Due.is("no such k", x.sure(-1), -1);
        x.days(2);
        x.set(1, 1);
        x.wipe(0, true);
        Due.is("of the text, nothing by hand", x.fits(2, -1), 2);
        x.forget();
        Due.is("forgotten", x.fits(1, -1), -1);
        Due.is("forgotten", x.fits(0, -1), 8);
        TrueInk y = Due.told("fact a 1 1; page p all a=1; slips 100;");
        y.see(0, 30, 4);
        Due.is("it slips as it does", y.fits(1, 0), 1);
        y.see(0, 29, 0);
        Due.is("and that fits", y.fits(2, -1), 1);
        Due.is("all is sure", y.sure(2), 1);
    }

    private static void next() {
        TrueInk x = Due.told("fact a 3 0; page p all a=0; page q all a<2; page r part a>0 and a>1 and a>2 and a<0; goes a = 0;");
        Due.is("which", x.next(0, 0, 0), 2);
        Due.is("the most", x.next(0, 0, 1), 1);
        Due.is("of alike ones the first", x.next(0, 1, 0), 0);
        Due.is("the most", x.next(0, 1, 1), 4);
        x.see(1, 0, 4);
        Due.is("which", x.next(1, 0, 0), 0);
        Due.is("the most", x.next(1, 0, 1), 1);
        x.see(1, 0, 0);
        Due.is("none fit", x.next(2, 0, 0), -2);
        Due.is("none fit", x.next(2, 0, 1), -2);
        Due.is("no such k", x.next(3, 0, 0), -1);
        Due.is("no such k", x.next(-1, 0, 0), -1);
        Due.is("no such n", x.next(0, 31, 0), -1);
        Due.is("no such n", x.next(0, -1, 0), -1);
        Due.is("no such what", x.next(0, 0, 2), -1);
        Due.is("no such what", x.next(0, 0, -1), -1);
        Due.is("no pages", Due.told("fact a 1 0;").next(0, 30, 0), -2);
    }

    private static void fewest() {
        TrueInk x = Due.told("fact a 3 0; page p all a<2; page q all a=1; page r all a=0; page s all a=3; page t all a=0 and a=1;");
        // q, r, s by themselves tell all; p needs two of them that part 0 from 1 and 2 from 3.
        Due.is("how many", x.fewest(0, 0), 3);
        Due.is("least bits", x.fewest(0, 1), 1 + 2 + 8);
        Due.is("fewest(31, 0)", x.fewest(31, 0), -1);
        Due.is("fewest(-1, 0)", x.fewest(-1, 0), -1);
        Due.is("fewest(0, 2)", x.fewest(0, 2), -1);
        Due.is("fewest(0, -1)", x.fewest(0, -1), -1);
        TrueInk y = Due.told("fact a 3 0; page p all a<2; page q all a=0 and 1=1; page r part a>0 and a>1 and a>2; goes a = a/2;");
        Due.is("one", y.fewest(0, 0), 1);
        Due.is("which", y.fewest(0, 1), 4);
        Due.is("not by all", y.fewest(1, 0), -2);
        Due.is("not by all", y.fewest(1, 1), -2);
        TrueInk z = Due.told("fact a 3 0; fact b 1 0; page p all a<2; page q all b=1; page r all a=0; page s part b>0 and a=2 and b>0;");
        // a: p, r and s; b: q or s.
        Due.is("how many", z.fewest(0, 0), 3);
        Due.is("which", z.fewest(0, 1), 1 + 4 + 8);
        TrueInk u = Due.told("page p all 1=1;");
        Due.is("one world", u.fewest(30, 0), 0);
        Due.is("one world", u.fewest(30, 1), 0);
        TrueInk v = Due.told("fact a 1 0; fact b 1 0; page p all day=30 and a=1; page q all day=30 and b=1;");
        Due.is("not yet", v.fewest(29, 0), -2);
        Due.is("on the day", v.fewest(30, 1), 3);
    }

    private static void slots() {
        TrueInk x = Due.told("fact a 3 0; goes a = a+1; page p all a=2; page q all this=0 and a=1;");
        x.days(1);
        Due.is("hold(0)", x.hold(0), true);
        Due.is("hold(-1)", x.hold(-1), false);
        Due.is("hold(3)", x.hold(3), false);
        Due.is("nothing there", x.restore(1), false);
        Due.is("nothing there", x.restore(2), false);
        Due.is("no such slot", x.restore(3), false);
        Due.is("no such slot", x.restore(-1), false);
        Due.is("still to be undone", x.count(8), 1);
        x.days(1);
        x.wipe(1, true);
        x.see(0, 0, 0);
        Due.is("hold(2)", x.hold(2), true);
        Due.is("slots", x.count(10), 2);
        x.days(5);
        Due.feed(x, "fact");
        Due.is("restore(0)", x.restore(0), true);
        Due.is("day", x.count(2), 1);
        Due.is("fact", x.fact(0), 1);
        Due.is("blinks", x.settled(0), 1);
        Due.is("flickers", x.count(5), 2);
        Due.is("not wiped", x.count(6), 0);
        Due.is("nothing to be undone", x.undo(), false);
        Due.is("seen stays", x.count(9), 1);
        Due.is("tape stays", x.count(7), 4);
        Due.is("when", x.when(0), 1);
        Due.is("restore(2)", x.restore(2), true);
        Due.is("day", x.count(2), 2);
        Due.is("wiped", x.count(6), 2);
        Due.is("black", x.count(4), 1);
        Due.is("when", x.when(0), 0);
        x.set(0, 3);
        Due.is("to be undone", x.count(8), 1);
        Due.is("it stays there", x.restore(0), true);
        Due.is("day", x.count(2), 1);
        x.set(0, 0);
        Due.is("held anew", x.hold(0), true);
        x.set(0, 2);
        x.restore(0);
        Due.is("the later one", x.fact(0), 0);
        Due.is("slots", x.count(10), 2);
    }

    private static void counts() {
        TrueInk x = Due.told("fact a 1 0 mine; fact b 1 0; fact c 2 1 yours; fact d 1 1 mine; slips 7; seed 3;"
                + "page p all 1=1; page q all this=0; page r all p=4; page s some 1=0;");
        x.set(0, 1);
        x.set(1, 1);
        x.wipe(3, true);
        x.see(0, 0, 4);
        x.hold(0);
        x.hold(2);
        Due.feed(x, "abc");
        int[] due = {4, 4, 0, 7, 1 + 4, 2, 8, 3, 3, 1, 2, 1 + 8, 4};
        for (int w = 0; w < due.length; w++) {
            Due.is("count(" + w + ")", x.count(w), due[w]);
        }
        Due.is("count(13)", x.count(13), -1);
        Due.is("count(-1)", x.count(-1), -1);
        Due.is("count(MIN)", x.count(Integer.MIN_VALUE), -1);
        x.days(9);
        Due.is("the day", x.count(2), 9);
    }

    /** No answer leans on another question asked ahead of it. */
    private static void askedFirst() {
        Due.is("blackIn", Due.told(Samples.ROUND).blackIn(4), 2);
        Due.is("grey", Due.told(Samples.ROUND).grey(4, false), 5);
        Due.is("weight", Due.told(Samples.ROUND).weight(4, 0), 3);
        Due.is("weakest", Due.told(Samples.ROUND).weakest(4, 1), 2);
        Due.is("bestWorld", Due.told(Samples.ROUND).bestWorld(2), 1);
        Due.is("least", Due.told(Samples.ROUND).least(4, 1), 2);
        Due.is("rests", Due.told(Samples.ROUND).rests(0, 4, -1), 1);
        Due.is("again", Due.told(Samples.ROUND).again(0), 4);
        Due.is("shade", Due.told(Samples.ROUND).shade(4, 1), 2);
        TrueInk x = Due.told(Samples.ROUND);
        x.see(4, 1, 2);
        Due.is("sure", x.sure(1), 1);
        TrueInk y = Due.told(Samples.ROUND);
        y.see(4, 3, 0);
        Due.is("next", y.next(1, 1, 1), 1);
        TrueInk z = Due.told(Samples.ROUND);
        z.see(1, 3, 0);
        Due.is("fits", z.fits(1, 0), 0);
    }

    private static void allBlack() {
        TrueInk x = Due.told("fact a 1 0; page p all 1=1; page q all 1=1; page r all 1=1; page s all 1=1; page t all 1=1; page u all 1=1;");
        Due.is("black", x.count(4), 63);
        Due.is("the last number", x.stands(0), 15624);
        x.see(0, 30, 4);
        x.see(5, 30, 4);
        x.see(5, 1, 4);
        Due.is("behind days", x.fits(3, -1), 2);
        Due.is("twins", x.twins(30, 1), 1);
        Due.is("ahead", x.shade(5, 300), 4);
    }

    private static void textAfterText() {
        TrueInk x = Due.told("fact a 3 0 mine; fact b 3 0 yours; goes a = 3; goes b = 3; slips 100;"
                + "page p part q=0 and q=1 and q=2 and q=3 and q=4; page q all p=0 and day>0;");
        x.days(2);
        x.twins(30, 0);
        Due.is("another", Due.read(x, "fact a 3 0; fact b 1 1; page p all a=0; page q some p=4 and b=0;"), 0);
        Due.is("whose", x.count(11) + x.count(12), 0);
        Due.is("slips", x.count(3), 0);
        Due.is("black", x.count(4), 3);
        Due.is("how many claims", x.page(0, 3), 1);
        Due.is("worlds", x.world(1), 8);
        x.days(1);
        Due.is("no law, no slip", x.world(0), 4);
        Due.is("twins", x.twins(3, 1), 2);
        Due.is("lesser", x.twins(3, 0), 1);
        Due.is("black in", x.blackIn(0), 2);
        Due.is("stands", x.stands(-1), 1);
        Due.is("which", x.stands(0), 24);
    }
}
