/**
 * Promises 1 to 38, sentence by sentence: what each says of its limits, of what there is none of, and of what is refused.
 * What is refused must leave all that goes on as it is.
 */
public final class EdgesTest {
    private static final int MIN = Integer.MIN_VALUE;
    private static final int MAX = Integer.MAX_VALUE;
    /** Below all that is ever numbered or counted. */
    private static final int[] BELOW = {MIN, MIN + 1, -1000, -3, -2};
    /** Two facts, three pages: m is black while a is 0, y blinks from a = 2 on, and h stays black once it is. */
    private static final String TEXT = "fact a 3 1 mine; fact b 1 0 yours; goes a = if a<3 then a+1 else 0;"
            + "page m all a=0; page y all this=0 and a>1; page h some this=4 and b=1;";

    public static void main(String[] args) {
        newObject();
        feed();
        back();
        read();
        place();
        fact();
        page();
        settled();
        days();
        set();
        wipe();
        undo();
        undoAndAsk();
        undoFifty();
        world();
        stands();
        least();
        when();
        stays();
        longest();
        changed();
        shade();
        blackIn();
        grey();
        weight();
        weakest();
        bestWorld();
        again();
        twins();
        rests();
        hopes();
        see();
        forget();
        fits();
        sure();
        next();
        fewest();
        hold();
        restore();
        restoreAndAsk();
        count();
        theLastCall();
        Doc.allPromisesNamed();
        Due.end();
    }

    /** All that is below 0, and from the first number on that is too much. */
    private static int[] outside(int tooMuch) {
        return new int[] {MIN, MIN + 1, -1000, -2, -1, tooMuch, tooMuch + 1, tooMuch + 1000, MAX - 1, MAX};
    }

    private static void newObject() {
        Doc.promise(1, "Nothing is told.");
        TrueInk x = new TrueInk();
        for (int w = 0; w <= 12; w++) {
            Due.is("new: count(" + w + ")", x.count(w), 0);
        }
        Due.is("NONE", TrueInk.NONE, -1);
        Due.is("no fault", x.place(), -1);
        Due.is("no fact", x.fact(0), -1);
        Due.is("no page", x.page(0, 0), -1);
        for (int w = 0; w <= 2; w++) {
            Due.is("settled(" + w + ")", x.settled(w), 0);
        }
        Due.is("nothing to undo", x.undo(), false);
        Due.is("one world", x.world(1), 1);
        Due.is("its number", x.world(0), 0);
        Due.is("one way to stand", x.stands(-1), 1);
        Due.is("day after day", x.again(0), 1);
        Due.is("one world fits", x.fits(0, -1), 1);
        Due.is("no twins", x.twins(30, 0), -2);
        Due.is("no page to look at", x.next(0, 0, 0), -2);
        Due.is("no page needed", x.fewest(0, 0), 0);
        Due.is("nothing held", x.restore(0), false);
        Due.is("days go by all the same", x.days(100), 100);
        TrueInk y = new TrueInk();
        Due.is("another object is another", y.count(2), 0);
    }

    private static void feed() {
        Doc.promise(2, "Twenty bytes, the highest of a first, come behind the tape: how many it has.");
        TrueInk x = new TrueInk();
        // "fact a 3 2;slips 77;"
        Due.is("20 bytes", x.feed(0x66616374, 0x20612033, 0x20323b73, 0x6c697073, 0x2037373b), 20);
        // "page p some a=2;    "
        Due.is("20 more behind them", x.feed(0x70616765, 0x20702073, 0x6f6d6520, 0x613d323b, 0x20202020), 40);
        Due.is("read", x.read(), 0);
        Due.is("of the first", x.fact(0), 2);
        Due.is("to their end", x.count(3), 77);
        Due.is("of the second", x.page(0, 0), 4);
        TrueInk y = new TrueInk();
        y.feed(0x20202020, 0x20202020, 0x20202020, 0x20202020, 0x202020ff);
        Due.is("a byte of 255 is no token", y.read(), 1);
        Due.is("it is the last", y.place(), 19);
        y.feed(0xff202020, -1, MIN, MAX, 0);
        Due.is("the highest of a is the first", y.read(), 1);
        Due.is("its place", y.place(), 0);
        Doc.promise(2, "NONE, and nothing comes, if it would have more than 2,000.");
        TrueInk z = new TrueInk();
        for (int i = 1; i <= 100; i++) {
            Due.is("feed " + i, z.feed(0x20202020, 0x20202020, 0x20202020, 0x20202020, 0x20202020), 20 * i);
        }
        Due.is("more than 2,000", z.feed(0x78787878, 0x78787878, 0x78787878, 0x78787878, 0x78787878), -1);
        Due.is("nothing came", z.count(7), 2000);
        z.back(19);
        Due.is("2,001", z.feed(0x78787878, 0x78787878, 0x78787878, 0x78787878, 0x78787878), -1);
        Due.is("nothing came", z.count(7), 1981);
        z.back(1);
        Due.is("just 2,000", z.feed(0x66616374, 0x20612033, 0x20323b73, 0x6c697073, 0x2037373b), 2000);
        Due.is("nothing else is there", z.read(), 0);
        Due.is("but that", z.fact(0), 2);
    }

    private static void back() {
        Doc.promise(3, "The last n bytes of the tape go: how many it has.");
        TrueInk x = new TrueInk();
        Due.feed(x, "fact a 1 0;slips 5;x");
        Due.is("none go", x.back(0), 20);
        Due.is("one goes", x.back(1), 19);
        Due.is("read", x.read(), 0);
        Due.is("the last one it was", x.count(3), 5);
        Due.feed(x, "slips 6;slips 7;");
        Due.is("eight go", x.back(8), 8);
        Due.feed(x, "seed 1;");
        Due.is("read", x.read(), 0);
        Due.is("the one ahead", x.count(3), 6);
        Doc.promise(3, "NONE, and nothing goes, if it has not so many, or n is below 0.");
        Due.feed(x, "slips 9;");
        for (int n : new int[] {MIN, MIN + 1, -20, -1, 9, 10, 2000, 2001, MAX - 1, MAX}) {
            Due.is("back(" + n + ")", x.back(n), -1);
            Due.is("nothing went", x.count(7), 8);
        }
        Due.is("all go", x.back(8), 0);
        Due.is("of none", x.back(1), -1);
        Due.is("of none", x.back(-1), -1);
        Due.is("none of none", x.back(0), 0);
    }

    private static void read() {
        Doc.promise(4, "The tape, which is empty then, is read: 0, or the number of its FAULT.");
        String[] texts = {"fact a 3 0;", "fact a 3 0", "page p all ((((((((", "fact a 3 0; page a all 1=1;", "goes a = 1;", "fact a 4 0;",
            "fact a 3 0; goes a = this;", "fact a 3 0; fact b 3 0; fact c 3 0; fact d 3 0; fact e 3 0; fact f 3 0;", "page p all a=1;"};
        for (int number = 0; number < texts.length; number++) {
            TrueInk x = new TrueInk();
            Due.is("read of " + texts[number], Due.read(x, texts[number]), number);
            Due.is("empty then", x.count(7), 0);
            Due.is("an empty tape is a text too", x.read(), 0);
            Due.is("with no fault", x.place(), -1);
            Due.is("and no facts", x.count(0), 0);
        }
    }

    private static void place() {
        Doc.promise(5, "The byte of the latest read()'s FAULT; NONE without.");
        TrueInk x = new TrueInk();
        Due.is("no read yet", x.place(), -1);
        Due.read(x, "!");
        Due.is("the first byte", x.place(), 0);
        Due.read(x, "seed 1; !");
        Due.is("the latest one's", x.place(), 8);
        Due.read(x, "seed 1 ");
        Due.is("the end", x.place(), 7);
        Due.feed(x, "slips 101;");
        Due.is("not read yet", x.place(), 7);
        x.read();
        Due.is("read", x.place(), 6);
        Due.read(x, Due.times(1999, " ") + "!");
        Due.is("the last byte", x.place(), 1999);
        Due.read(x, Due.times(1994, " ") + "seed 1");
        Due.is("the end of a full tape", x.place(), 2000);
        x.days(1);
        x.undo();
        Due.is("as it was", x.place(), 2000);
        Due.read(x, "seed 1;");
        Due.is("none", x.place(), -1);
    }

    private static void fact() {
        Doc.promise(6, "What a FACT is; NONE: no such one.");
        TrueInk x = Due.told("fact a 3 2; fact b 1 0; fact c 2 1; fact d 1 1; fact e 1 0; fact f 1 1; fact g 1 0; fact h 1 1;");
        int[] due = {2, 0, 1, 1, 0, 1, 0, 1};
        for (int f = 0; f < 8; f++) {
            Due.is("fact(" + f + ")", x.fact(f), due[f]);
        }
        for (int f : outside(8)) {
            Due.is("fact(" + f + ")", x.fact(f), -1);
        }
        Due.is("one less", Due.told("fact a 3 2;").fact(1), -1);
    }

    private static void page() {
        TrueInk x = Due.told("fact a 2 1; page p part a=1 and 1/(a-1)=0 and a>1; page q all a=1 and this<9; page l all this=0 and a=1;");
        Doc.promise(7, "Of a PAGE: what 0 SHADE, 1: 1 if it FLICKERS, else 0,");
        int[][] due = {{1, 0, 1, 3, 1, 1, 0}, {4, 0, 2, 2, -2, -2, 0}, {4, 1, 1, 2, 0, -2, 0}};
        for (int p = 0; p < 3; p++) {
            for (int w = 0; w <= 6; w++) {
                Due.is("page(" + p + ", " + w + ")", x.page(p, w), due[p][w]);
            }
        }
        Doc.promise(7, "2 how many of its CLAIMS are true (by FACTS and SHADES as they are, wiped or not), 3 how many it has,");
        x.wipe(1, true);
        Due.is("wiped: shade", x.page(1, 0), 0);
        Due.is("wiped: true ones", x.page(1, 2), 2);
        Due.is("wiped: how many", x.page(1, 3), 2);
        Due.is("one", Due.told("page p all 1=0;").page(0, 3), 1);
        TrueInk six = Due.told("page p all 1=1 and 1=1 and 1=1 and 1=1 and 1=1 and 1=1;");
        Due.is("six", six.page(0, 3), 6);
        Due.is("six true", six.page(0, 2), 6);
        Doc.promise(7, "4 the first that is not true (-2: none), 5 the first without sense (-2: none),");
        Due.is("wiped: none untrue", x.page(1, 4), -2);
        TrueInk y = Due.told("page p some 1=1 and 1=0 and 1/0=1; page q all 1/0=1 and 1=0; page r all 1=1 and 2=2 and 3=3 and "
                + "4=4 and 5=5 and 6/0=6;"
                + "page s all 1=0;");
        Due.is("the first untrue", y.page(0, 4), 1);
        Due.is("the first without sense", y.page(0, 5), 2);
        Due.is("one without sense is not true", y.page(1, 4), 0);
        Due.is("without sense", y.page(1, 5), 0);
        Due.is("the last", y.page(2, 4), 5);
        Due.is("the last", y.page(2, 5), 5);
        Due.is("untrue, but with sense", y.page(3, 5), -2);
        Doc.promise(7, "6: 1 if it is wiped, else 0.");
        Due.is("wiped", x.page(1, 6), 1);
        Due.is("not", x.page(0, 6), 0);
        Doc.promise(7, "NONE for others.");
        for (int w : outside(7)) {
            Due.is("page(0, " + w + ")", x.page(0, w), -1);
        }
        for (int p : outside(3)) {
            for (int w = 0; w <= 6; w++) {
                Due.is("page(" + p + ", " + w + ")", x.page(p, w), -1);
            }
        }
    }

    private static void settled() {
        Doc.promise(8, "How the last SETTLING went: what 0: 0 SETTLED, 1 BLINK, 2 WILD;");
        Doc.promise(8, "1 how many steps that changed something, till then;");
        Doc.promise(8, "2 in how many steps it comes round (BLINK; else 0).");
        settledAs("page p all 1=0;", 0, 0, 0);
        settledAs("page p all 1=1; page q all p=4;", 0, 2, 0);
        settledAs("page p all this=0;", 1, 2, 2);
        settledAs("page p all 1=1; page q all p=4 and this=0;", 1, 3, 2);
        settledAs("page c part this<4 and this*(4-this)>0 and (this-1)*(4-this)>0 and this=3;", 1, 5, 5);
        settledAs(Samples.stepTo300(1), 2, 300, 0);
        TrueInk x = Due.told("fact a 1 0; page p all this=0 and a=1; page q all day<2;");
        x.set(0, 1);
        Due.is("the last one", x.settled(0), 1);
        x.wipe(0, true);
        Due.is("the last one", x.settled(0), 0);
        Due.is("nothing changed", x.settled(1), 0);
        x.days(2);
        Due.is("the last day's", x.settled(1), 1);
        x.days(1);
        Due.is("the last day's", x.settled(1), 0);
        Doc.promise(8, "NONE for others.");
        for (int w : outside(3)) {
            Due.is("settled(" + w + ")", x.settled(w), -1);
        }
    }

    private static void settledAs(String text, int how, int steps, int round) {
        TrueInk x = Due.told(text);
        Due.is("how: " + text, x.settled(0), how);
        Due.is("steps: " + text, x.settled(1), steps);
        Due.is("round: " + text, x.settled(2), round);
    }

    private static void days() {
        Doc.promise(9, "n DAYS (0 .. 100; 0 is no thing done) go by: which it is;");
        TrueInk x = Due.told(TEXT);
        Due.is("days(0)", x.days(0), 0);
        Due.is("no thing done", x.count(8), 0);
        Due.is("days(1)", x.days(1), 1);
        Due.is("a thing done", x.count(8), 1);
        Due.is("a", x.fact(0), 2);
        Due.is("days(100)", x.days(100), 101);
        Due.is("one more", x.count(8), 2);
        Due.is("a", x.fact(0), 2);
        Due.is("days(0) on that day", x.days(0), 101);
        Due.is("no thing done", x.count(8), 2);
        Doc.promise(9, "NONE, and nothing happens: no such n.");
        String ahead = Due.whole(x);
        for (int n : outside(101)) {
            Due.is("days(" + n + ")", x.days(n), -1);
        }
        Due.same("nothing happened", Due.whole(x), ahead);
    }

    private static void set() {
        Doc.promise(10, "A FACT is SET: true; false, and nothing happens: it is that, it can't be, no such one.");
        TrueInk x = Due.told(TEXT);
        String ahead = Due.whole(x);
        Due.is("it is that", x.set(0, 1), false);
        Due.is("it is that", x.set(1, 0), false);
        for (int v : outside(4)) {
            Due.is("a can't be " + v, x.set(0, v), false);
        }
        for (int v : outside(2)) {
            Due.is("b can't be " + v, x.set(1, v), false);
        }
        for (int f : outside(2)) {
            Due.is("no fact " + f, x.set(f, 0), false);
            Due.is("no fact " + f, x.set(f, 1), false);
        }
        Due.same("nothing happened", Due.whole(x), ahead);
        Due.is("the most", x.set(0, 3), true);
        Due.is("a", x.fact(0), 3);
        Due.is("a thing done", x.count(8), 1);
        Due.is("0", x.set(0, 0), true);
        Due.is("m is black", x.page(0, 0), 4);
        Due.is("the last fact", x.set(1, 1), true);
        Due.is("h is black", x.page(2, 0), 4);
        Due.is("b", x.fact(1), 1);
        Due.is("three things done", x.count(8), 3);
    }

    private static void wipe() {
        Doc.promise(11, "A PAGE is WIPED (or written anew): true; false, and nothing happens: it is so, no such one.");
        TrueInk x = Due.told(TEXT);
        x.set(0, 0);
        String ahead = Due.whole(x);
        for (int p = 0; p < 3; p++) {
            Due.is("it is not wiped", x.wipe(p, false), false);
        }
        for (int p : outside(3)) {
            Due.is("no page " + p, x.wipe(p, true), false);
            Due.is("no page " + p, x.wipe(p, false), false);
        }
        Due.same("nothing happened", Due.whole(x), ahead);
        Due.is("wiped", x.wipe(0, true), true);
        Due.is("white", x.page(0, 0), 0);
        Due.is("which", x.count(6), 1);
        Due.is("things done", x.count(8), 2);
        ahead = Due.whole(x);
        Due.is("it is wiped", x.wipe(0, true), false);
        Due.same("nothing happened", Due.whole(x), ahead);
        Due.is("the last page too", x.wipe(2, true), true);
        Due.is("which", x.count(6), 5);
        Due.is("written anew", x.wipe(0, false), true);
        Due.is("black", x.page(0, 0), 4);
        Due.is("which", x.count(6), 4);
    }

    private static boolean doThing(TrueInk x, int which) {
        return which == 0 ? x.set(0, 2) : which == 1 ? x.wipe(1, true) : x.days(6) == 6;
    }

    private static void undo() {
        Doc.promise(12, "The last thing done (days, set, wipe) is undone: true;");
        TrueInk x = Due.told(TEXT);
        String[] was = new String[4];
        for (int i = 0; i < 3; i++) {
            was[i] = Due.whole(x);
            Due.is("done", doThing(x, i), true);
        }
        was[3] = Due.whole(x);
        x.days(0);
        x.set(0, 9);
        x.wipe(1, true);
        Due.same("what is refused is no thing done", Due.whole(x), was[3]);
        for (int i = 2; i >= 0; i--) {
            Due.is("undo", x.undo(), true);
            Due.same("as it was behind " + i, Due.whole(x), was[i]);
        }
        Doc.promise(12, "false: there is none (the last 50 can be).");
        Due.is("there is none", x.undo(), false);
        Due.same("nothing happened", Due.whole(x), was[0]);
    }

    private static void undoAndAsk() {
        TrueInk x = Due.told(TEXT);
        String[] was = new String[3];
        for (int i = 0; i < 3; i++) {
            was[i] = Due.asked(x);
            Due.is("asked of something else", i > 0 && was[i].equals(was[i - 1]), false);
            Due.is("done", doThing(x, i), true);
        }
        for (int i = 2; i >= 0; i--) {
            Due.is("undo", x.undo(), true);
            Due.same("asked as it was behind " + i, Due.asked(x), was[i]);
        }
    }

    private static void undoFifty() {
        TrueInk x = Due.told(TEXT);
        for (int i = 1; i <= 50; i++) {
            x.set(0, (1 + i) % 4);
            Due.is("can be undone", x.count(8), i);
        }
        x.set(0, 0);
        Due.is("51 things done", x.count(8), 50);
        for (int i = 50; i >= 1; i--) {
            Due.is("undo " + i, x.undo(), true);
            Due.is("as it was", x.fact(0), (1 + i) % 4);
        }
        Due.is("the 51st", x.undo(), false);
        Due.is("as behind the first", x.fact(0), 2);
        Due.is("none are left", x.count(8), 0);
        x.days(3);
        Due.is("one anew", x.undo(), true);
        Due.is("and no more", x.undo(), false);
        TrueInk y = Due.told(TEXT);
        for (int i = 1; i <= 50; i++) {
            y.days(1);
        }
        for (int i = 49; i >= 0; i--) {
            Due.is("50 and no more", y.undo(), true);
            Due.is("day", y.count(2), i);
        }
        Due.is("none", y.undo(), false);
    }

    private static void world() {
        Doc.promise(13, "The number of the WORLD as it is (what 0), or how many there are (what 1); NONE for others.");
        TrueInk x = Due.told(TEXT);
        Due.is("world", x.world(0), 1);
        Due.is("worlds", x.world(1), 8);
        x.set(0, 3);
        x.set(1, 1);
        Due.is("the last", x.world(0), 7);
        x.set(0, 0);
        Due.is("b counts four", x.world(0), 4);
        for (int w : outside(2)) {
            Due.is("world(" + w + ")", x.world(w), -1);
        }
    }

    private static void stands() {
        Doc.promise(14, "STANDS: how many (i NONE), else the i-th's number; NONE: not so many, i below NONE.");
        TrueInk x = Due.told("page p some this=4; page q all p=0;");
        Due.is("how many", x.stands(-1), 2);
        Due.is("the first", x.stands(0), 4);
        Due.is("the second", x.stands(1), 20);
        for (int i : new int[] {2, 3, 64, 15625, MAX - 1, MAX}) {
            Due.is("stands(" + i + ")", x.stands(i), -1);
        }
        for (int i : BELOW) {
            Due.is("stands(" + i + ")", x.stands(i), -1);
        }
        TrueInk y = Due.told("page l all this=0;");
        Due.is("none", y.stands(-1), 0);
        Due.is("no first", y.stands(0), -1);
        TrueInk z = Due.told("fact a 1 1; page p all a=1; page q all a=1;");
        z.wipe(1, true);
        Due.is("a wiped one stands white alone", z.stands(-1), 1);
        Due.is("which", z.stands(0), 4);
        z.set(0, 0);
        z.wipe(1, false);
        Due.is("asked of other worlds", z.blackIn(0), 1);
        Due.is("stands in this one", z.stands(-1), 1);
        Due.is("which", z.stands(0), 0);
    }

    private static void least() {
        Doc.promise(15, "LEAST: what 0 how many FACTS, 1 the WORLD's number; -2: there is none; NONE: no such ones.");
        TrueInk x = Due.told("fact a 3 0; fact b 1 0; page p all a=2 and b=1; page n all a>3; page z all a=0;");
        Due.is("facts", x.least(0, 0), 2);
        Due.is("world", x.least(0, 1), 6);
        Due.is("none: facts", x.least(1, 0), -2);
        Due.is("none: world", x.least(1, 1), -2);
        Due.is("as it is", x.least(2, 0), 0);
        Due.is("world", x.least(2, 1), 0);
        for (int w : outside(2)) {
            Due.is("least(0, " + w + ")", x.least(0, w), -1);
            Due.is("least(1, " + w + ")", x.least(1, w), -1);
        }
        for (int p : outside(3)) {
            Due.is("least(" + p + ", 0)", x.least(p, 0), -1);
            Due.is("least(" + p + ", 1)", x.least(p, 1), -1);
        }
    }

    private static void when() {
        Doc.promise(16, "WHEN; -2: not; NONE: no such PAGE.");
        TrueInk x = Due.told("page a all day=0; page b all day=300; page c all day=301; page d all 1=0;");
        int[] due = {0, 300, -2, -2};
        for (int p = 0; p < 4; p++) {
            Due.is("when(" + p + ")", x.when(p), due[p]);
        }
        for (int p : outside(4)) {
            Due.is("when(" + p + ")", x.when(p), -1);
        }
        x.days(1);
        Due.is("not again", x.when(0), -2);
        Due.is("now within", x.when(2), 300);
    }

    private static void stays() {
        Doc.promise(17, "STAYS (0 if it is not black now; 300 if longer); NONE: no such PAGE.");
        TrueInk x = Due.told("page a all day>0; page b all day<1; page c all day<299; page d all day<300; page e all day<301; "
                + "page f all 1=1;");
        int[] due = {0, 1, 299, 300, 300, 300};
        for (int p = 0; p < 6; p++) {
            Due.is("stays(" + p + ")", x.stays(p), due[p]);
        }
        for (int p : outside(6)) {
            Due.is("stays(" + p + ")", x.stays(p), -1);
        }
        x.days(1);
        Due.is("from now on", x.stays(0), 300);
        Due.is("from now on", x.stays(1), 0);
        Due.is("from now on", x.stays(4), 300);
        x.days(1);
        Due.is("from now on", x.stays(4), 299);
        x.wipe(5, true);
        Due.is("wiped", x.stays(5), 0);
        Due.is("grey is not black", Due.told("page p part 1=1 and 2=2 and 3=3 and 1=0;").stays(0), 0);
    }

    private static void longest() {
        Doc.promise(18, "LONGEST; NONE: no such ones.");
        TrueInk x = Due.told("page a all 1=1; page b all day=300; page c all 1=0;");
        Due.is("today", x.longest(0, 0), 1);
        Due.is("to the last day", x.longest(0, 300), 301);
        Due.is("not yet", x.longest(1, 299), 0);
        Due.is("the last day", x.longest(1, 300), 1);
        Due.is("never", x.longest(2, 300), 0);
        for (int n : outside(301)) {
            Due.is("longest(0, " + n + ")", x.longest(0, n), -1);
        }
        for (int p : outside(3)) {
            Due.is("longest(" + p + ", 0)", x.longest(p, 0), -1);
            Due.is("longest(" + p + ", 300)", x.longest(p, 300), -1);
        }
    }

    private static void changed() {
        Doc.promise(19, "CHANGED (bits); NONE: no such n.");
        TrueInk x = Due.told("page a all day=0; page b all 1=1; page c all day=300; page d part day>0 and day>299; "
                + "page e all 1=0; page f all day=1;");
        Due.is("today", x.changed(0), 0);
        Due.is("tomorrow", x.changed(1), 1 + 8 + 32);
        Due.is("the last day", x.changed(300), 1 + 4 + 8);
        for (int n : outside(301)) {
            Due.is("changed(" + n + ")", x.changed(n), -1);
        }
        Due.is("no pages", new TrueInk().changed(300), 0);
        Due.is("no such n", new TrueInk().changed(301), -1);
    }

    private static void shade() {
        Doc.promise(20, "The SHADE of a PAGE behind n DAYS (0 .. 300); NONE: no such ones.");
        TrueInk x = Due.told("page a part day>0 and day>1 and day>2 and day>3; page b all day=300;");
        for (int n = 0; n <= 6; n++) {
            Due.is("shade(0, " + n + ")", x.shade(0, n), Math.min(n, 4));
        }
        Due.is("the day ahead", x.shade(1, 299), 0);
        Due.is("the last day", x.shade(1, 300), 4);
        for (int n : outside(301)) {
            Due.is("shade(0, " + n + ")", x.shade(0, n), -1);
        }
        for (int p : outside(2)) {
            Due.is("shade(" + p + ", 0)", x.shade(p, 0), -1);
        }
        x.days(2);
        Due.is("behind none it is as it is", x.shade(0, 0), 2);
    }

    private static void blackIn() {
        Doc.promise(21, "BLACK IN; NONE: no such PAGE.");
        TrueInk x = Due.told("fact a 3 1; page p all a<9; page q all a>9; page r all a=3;");
        int[] due = {4, 0, 1};
        for (int p = 0; p < 3; p++) {
            Due.is("blackIn(" + p + ")", x.blackIn(p), due[p]);
        }
        for (int p : outside(3)) {
            Due.is("blackIn(" + p + ")", x.blackIn(p), -1);
        }
    }

    private static void grey() {
        Doc.promise(22, "GREY: above (or below) the line; NONE: no such PAGE.");
        TrueInk x = Due.told("fact a 3 1; page p all a<9; page q all a>9; page r part a>0 and a>1 and a>2 and 1=0;");
        int[] above = {1, 0, 3};
        int[] below = {1, 1, 8};
        for (int p = 0; p < 3; p++) {
            Due.is("above of " + p, x.grey(p, false), above[p]);
            Due.is("below of " + p, x.grey(p, true), below[p]);
        }
        for (int p : outside(3)) {
            Due.is("above of " + p, x.grey(p, false), -1);
            Due.is("below of " + p, x.grey(p, true), -1);
        }
        TrueInk y = Due.told("page p all 1=1; page q part 1=1 and 1=0; page r part 1=1 and 1=0 and 1=0 and 1=0;");
        Due.is("one world", y.grey(0, true), 1);
        Due.is("half", y.grey(1, true), 2);
        Due.is("a quarter", y.grey(2, true), 4);
    }

    private static void weight() {
        Doc.promise(23, "WEIGHT; NONE: no such ones.");
        TrueInk x = Due.told(TEXT);
        Due.is("a for m", x.weight(0, 0), 4);
        Due.is("b for m", x.weight(0, 1), 0);
        Due.is("b for h", x.weight(2, 1), 8);
        for (int p : outside(3)) {
            Due.is("weight(" + p + ", 0)", x.weight(p, 0), -1);
        }
        for (int f : outside(2)) {
            Due.is("weight(0, " + f + ")", x.weight(0, f), -1);
        }
        Due.is("no facts", Due.told("page p all 1=1;").weight(0, 0), -1);
        Due.is("no pages", Due.told("fact a 1 0;").weight(0, 0), -1);
    }

    private static void weakest() {
        Doc.promise(24, "WEAKEST: what 0 the CLAIM, 1 in how many WORLDS it is not true; NONE: no such ones.");
        TrueInk x = Due.told("fact a 3 0; page p all a<3 and a<2 and a<1 and 1=1 and 2=2 and a<0; page q all a>9 and a<9;");
        Due.is("the claim", x.weakest(0, 0), 5);
        Due.is("in how many", x.weakest(0, 1), 4);
        Due.is("the claim", x.weakest(1, 0), 0);
        Due.is("in how many", x.weakest(1, 1), 4);
        for (int w : outside(2)) {
            Due.is("weakest(0, " + w + ")", x.weakest(0, w), -1);
        }
        for (int p : outside(2)) {
            Due.is("weakest(" + p + ", 0)", x.weakest(p, 0), -1);
            Due.is("weakest(" + p + ", 1)", x.weakest(p, 1), -1);
        }
    }

    private static void bestWorld() {
        Doc.promise(25, "BEST WORLD: what 0 its number, 1 how many PAGES are black, 2 how many FACTS must be SET; NONE for others.");
        TrueInk x = Due.told("fact a 3 0; fact b 1 0; page p all a=2 and b=1; page q all a=2; page r all a=1;");
        Due.is("number", x.bestWorld(0), 6);
        Due.is("black ones", x.bestWorld(1), 2);
        Due.is("to be set", x.bestWorld(2), 2);
        for (int w : outside(3)) {
            Due.is("bestWorld(" + w + ")", x.bestWorld(w), -1);
        }
        TrueInk first = Due.told("fact a 3 2; page p all a=0; page q all a<2;");
        Due.is("the first world", first.bestWorld(0), 0);
        Due.is("black ones", first.bestWorld(1), 2);
        Due.is("to be set", first.bestWorld(2), 1);
        for (int w = 0; w <= 2; w++) {
            Due.is("nothing told: bestWorld(" + w + ")", new TrueInk().bestWorld(w), 0);
        }
        TrueInk six = Due.told("page a all 1=1; page b all 1=1; page c all 1=1; page d all 1=1; page e all 1=1; page f all 1=1;");
        Due.is("all six", six.bestWorld(1), 6);
    }

    private static void again() {
        Doc.promise(26, "ROUND AGAIN: what 0 behind how many DAYS, 1 as behind how many; -2: not; NONE for others.");
        TrueInk x = Due.told("fact a 3 0; goes a = if a<3 then a+1 else 2;");
        Due.is("behind", x.again(0), 4);
        Due.is("as behind", x.again(1), 2);
        for (int w : outside(2)) {
            Due.is("again(" + w + ")", x.again(w), -1);
        }
        Due.is("not within 300: behind", Due.told(Samples.countTo300(0)).again(0), -2);
        Due.is("not within 300: as behind", Due.told(Samples.countTo300(0)).again(1), -2);
        Due.is("just within: behind", Due.told(Samples.countTo300(1)).again(0), 300);
        Due.is("just within: as behind", Due.told(Samples.countTo300(1)).again(1), 299);
    }

    private static void twins() {
        Doc.promise(27, "TWINS: what 0 the lesser WORLD, 1 the other one; -2: there are none; NONE: no such ones.");
        TrueInk x = Due.told("fact a 3 0; page p part a>0 and a>1 and a>2 and 1=0; page q all day=30; "
                + "goes a = if a<2 then a else if day<29 then a else 2;");
        Due.is("none: lesser", x.twins(0, 0), -2);
        Due.is("none: other", x.twins(0, 1), -2);
        Due.is("none behind 29", x.twins(29, 0), -2);
        Due.is("behind 30: lesser", x.twins(30, 0), 2);
        Due.is("behind 30: other", x.twins(30, 1), 3);
        for (int n : outside(31)) {
            Due.is("twins(" + n + ", 0)", x.twins(n, 0), -1);
            Due.is("twins(" + n + ", 1)", x.twins(n, 1), -1);
        }
        for (int w : outside(2)) {
            Due.is("twins(0, " + w + ")", x.twins(0, w), -1);
            Due.is("twins(30, " + w + ")", x.twins(30, w), -1);
        }
    }

    private static void rests() {
        Doc.promise(28, "RESTS: how many (i NONE), else the i-th's number; NONE: no such PAGES, one and the same, not so many.");
        TrueInk x = Due.told("fact a 1 0 mine; fact b 1 0 yours; page m all a=b; page y all 1=0; page z all 1=1;");
        // You whiten m, and have done so where a and b are unlike.
        Due.is("how many", x.rests(0, 1, -1), 2);
        Due.is("the first", x.rests(0, 1, 0), 1);
        Due.is("the second", x.rests(0, 1, 1), 2);
        for (int i : new int[] {2, 3, 4, 2000, MAX - 1, MAX}) {
            Due.is("rests(0, 1, " + i + ")", x.rests(0, 1, i), -1);
        }
        for (int i : BELOW) {
            Due.is("rests(0, 1, " + i + ")", x.rests(0, 1, i), -1);
        }
        for (int p = 0; p < 3; p++) {
            Due.is("one and the same", x.rests(p, p, -1), -1);
            Due.is("one and the same", x.rests(p, p, 0), -1);
        }
        for (int p : outside(3)) {
            Due.is("rests(" + p + ", 0, NONE)", x.rests(p, 0, -1), -1);
            Due.is("rests(0, " + p + ", NONE)", x.rests(0, p, -1), -1);
            Due.is("rests(" + p + ", 0, 0)", x.rests(p, 0, 0), -1);
            Due.is("none like itself", x.rests(p, p, -1), -1);
        }
        TrueInk n = Due.told("fact a 1 0 mine; fact b 1 0 yours; page m all a=b; page y some a<b and a>b;");
        Due.is("none", n.rests(0, 1, -1), 0);
        Due.is("no first", n.rests(0, 1, 0), -1);
    }

    private static void hopes() {
        Doc.promise(29, "HOPES; NONE: no such ones.");
        TrueInk x = Due.told("fact a 1 0; slips 100; page p all a=0; page q all a=1;");
        Due.is("today, one seed", x.hopes(0, 0, 1), 1);
        Due.is("today, 20 seeds", x.hopes(0, 0, 20), 20);
        Due.is("behind 100, 20 seeds", x.hopes(0, 100, 20), 20);
        Due.is("behind 99, 20 seeds", x.hopes(1, 99, 20), 20);
        Due.is("none of them", x.hopes(1, 100, 20), 0);
        for (int n : outside(101)) {
            Due.is("hopes(0, " + n + ", 1)", x.hopes(0, n, 1), -1);
        }
        for (int s : outside(21)) {
            Due.is("hopes(0, 1, " + s + ")", x.hopes(0, 1, s), -1);
        }
        Due.is("no seed", x.hopes(0, 1, 0), -1);
        for (int p : outside(2)) {
            Due.is("hopes(" + p + ", 1, 1)", x.hopes(p, 1, 1), -1);
        }
    }

    private static void see() {
        Doc.promise(30, "It is SEEN: its number; NONE, and nothing happens: 20 are there, no such ones (shade 0 .. 4).");
        TrueInk x = Due.told(TEXT);
        String ahead = Due.whole(x);
        for (int p : outside(3)) {
            Due.is("see(" + p + ", 0, 0)", x.see(p, 0, 0), -1);
        }
        for (int n : outside(31)) {
            Due.is("see(0, " + n + ", 0)", x.see(0, n, 0), -1);
        }
        for (int s : outside(5)) {
            Due.is("see(0, 0, " + s + ")", x.see(0, 0, s), -1);
        }
        Due.same("nothing happened", Due.whole(x), ahead);
        for (int i = 0; i < 20; i++) {
            Due.is("see", x.see(i % 3, i % 2 == 0 ? 30 : 0, i % 5), i);
            Due.is("seen", x.count(9), i + 1);
        }
        ahead = Due.whole(x);
        Due.is("20 are there", x.see(0, 0, 0), -1);
        Due.is("20 are there", x.see(0, 30, 4), -1);
        Due.same("nothing happened", Due.whole(x), ahead);
        Due.is("it is no thing done", x.undo(), false);
    }

    private static void forget() {
        Doc.promise(31, "All that was SEEN is forgotten: how many there were.");
        TrueInk x = Due.told(TEXT);
        Due.is("none", x.forget(), 0);
        x.see(0, 0, 0);
        Due.is("one", x.forget(), 1);
        Due.is("forgotten", x.count(9), 0);
        Due.is("not known", x.fits(1, -1), -1);
        Due.is("none", x.forget(), 0);
        for (int i = 0; i < 20; i++) {
            x.see(0, 0, 4);
        }
        Due.is("all twenty", x.forget(), 20);
        Due.is("from 0 on", x.see(0, 0, 4), 0);
        Due.is("by that alone", x.fits(1, -1), 2);
    }

    private static void fits() {
        Doc.promise(32, "FITS, as KNOWN by k: how many (i NONE), else the i-th's number; NONE: no such ones, not so many.");
        TrueInk x = Due.told(TEXT);
        x.see(0, 0, 4);
        x.see(2, 30, 4);
        x.see(2, 30, 0);
        Due.is("by none", x.fits(0, -1), 8);
        Due.is("by one", x.fits(1, -1), 2);
        Due.is("the first", x.fits(1, 0), 0);
        Due.is("the second", x.fits(1, 1), 4);
        Due.is("by two", x.fits(2, -1), 1);
        Due.is("which", x.fits(2, 0), 4);
        Due.is("by all three", x.fits(3, -1), 0);
        Due.is("not so many", x.fits(3, 0), -1);
        Due.is("not so many", x.fits(0, 8), -1);
        Due.is("the last", x.fits(0, 7), 7);
        for (int i : new int[] {2, 3, 2000, MAX - 1, MAX}) {
            Due.is("fits(1, " + i + ")", x.fits(1, i), -1);
        }
        for (int i : BELOW) {
            Due.is("fits(1, " + i + ")", x.fits(1, i), -1);
        }
        for (int k : outside(4)) {
            Due.is("fits(" + k + ", NONE)", x.fits(k, -1), -1);
            Due.is("fits(" + k + ", 0)", x.fits(k, 0), -1);
        }
        TrueInk full = Due.told(TEXT);
        for (int i = 0; i < 20; i++) {
            full.see(0, 0, 4);
        }
        Due.is("by 20", full.fits(20, -1), 2);
        Due.is("by 21", full.fits(21, -1), -1);
    }

    private static void sure() {
        Doc.promise(33, "SURE (bits; 0 if none FIT); NONE: no such k.");
        TrueInk x = Due.told(TEXT);
        x.see(0, 0, 4);
        x.see(2, 0, 4);
        x.see(2, 0, 0);
        int[] due = {0, 1, 3, 0};
        for (int k = 0; k <= 3; k++) {
            Due.is("sure(" + k + ")", x.sure(k), due[k]);
        }
        for (int k : outside(4)) {
            Due.is("sure(" + k + ")", x.sure(k), -1);
        }
        Due.is("no facts", new TrueInk().sure(0), 0);
        TrueInk e = Due.told("fact a 1 0;fact b 1 0;fact c 1 0;fact d 1 0;fact e 1 0;fact f 1 0;fact g 1 0;fact h 1 0;"
                + "page p all a+b+c+d+e+f+g+h=8; page q all h=1;");
        e.see(1, 0, 4);
        e.see(0, 0, 4);
        Due.is("the last fact", e.sure(1), 128);
        // Behind the last world there is none, though on day 1 the first one looks like the last one did.
        TrueInk w = Due.told("fact a 3 0; goes a = if a<1 then 3 else a; page p all a=3;");
        w.twins(1, 0);
        w.see(0, 0, 4);
        Due.is("a was 3", w.sure(1), 1);
        Due.is("all eight", e.sure(2), 255);
    }

    private static void next() {
        Doc.promise(34, "NEXT: what 0 the PAGE, 1 how many the most are; -2: none FIT, no PAGES; NONE: no such ones.");
        TrueInk x = Due.told("fact a 3 0; page p all a=0; page q part a>0 and a>1 and day=30; page r all a>2 and day<30;");
        Due.is("the page", x.next(0, 0, 0), 1);
        Due.is("the most", x.next(0, 0, 1), 2);
        Due.is("behind 30", x.next(0, 30, 0), 1);
        Due.is("the most", x.next(0, 30, 1), 2);
        x.see(0, 0, 4);
        x.see(0, 0, 0);
        Due.is("one fits", x.next(1, 30, 1), 1);
        Due.is("none fit: the page", x.next(2, 0, 0), -2);
        Due.is("none fit: the most", x.next(2, 0, 1), -2);
        TrueInk n = Due.told("fact a 3 0;");
        Due.is("no pages: the page", n.next(0, 0, 0), -2);
        Due.is("no pages: the most", n.next(0, 30, 1), -2);
        for (int k : outside(3)) {
            Due.is("next(" + k + ", 0, 0)", x.next(k, 0, 0), -1);
        }
        for (int k : outside(1)) {
            Due.is("no pages: next(" + k + ", 0, 0)", n.next(k, 0, 0), -1);
        }
        for (int d : outside(31)) {
            Due.is("next(0, " + d + ", 0)", x.next(0, d, 0), -1);
            Due.is("no pages: next(0, " + d + ", 0)", n.next(0, d, 0), -1);
            Due.is("none fit: next(2, " + d + ", 0)", x.next(2, d, 0), -1);
        }
        for (int w : outside(2)) {
            Due.is("next(0, 0, " + w + ")", x.next(0, 0, w), -1);
            Due.is("none fit: next(2, 0, " + w + ")", x.next(2, 0, w), -1);
        }
    }

    private static void fewest() {
        Doc.promise(35, "FEWEST: what 0 how many, 1 which (bits); -2: not by all; NONE: no such ones.");
        TrueInk x = Due.told("fact a 1 0; fact b 1 0; page p all 1=1; page q all a=1; page r all b=1 and day=30;");
        Due.is("not by all: how many", x.fewest(0, 0), -2);
        Due.is("not by all: which", x.fewest(29, 1), -2);
        Due.is("how many", x.fewest(30, 0), 2);
        Due.is("which", x.fewest(30, 1), 6);
        for (int n : outside(31)) {
            Due.is("fewest(" + n + ", 0)", x.fewest(n, 0), -1);
            Due.is("fewest(" + n + ", 1)", x.fewest(n, 1), -1);
        }
        for (int w : outside(2)) {
            Due.is("fewest(0, " + w + ")", x.fewest(0, w), -1);
            Due.is("fewest(30, " + w + ")", x.fewest(30, w), -1);
        }
        Due.is("one world: none are needed", Due.told("page p all 1=1;").fewest(0, 0), 0);
        Due.is("one world: none are needed", Due.told("page p all 1=1;").fewest(0, 1), 0);
        Due.is("no pages", Due.told("fact a 1 0;").fewest(0, 0), -2);
    }

    private static void hold() {
        Doc.promise(36, "All that goes on (not what was SEEN, nor the tape) is held in a SLOT (0 .. 2): true; false: no such one.");
        TrueInk x = Due.told(TEXT);
        for (int s : outside(3)) {
            Due.is("hold(" + s + ")", x.hold(s), false);
        }
        Due.is("nothing is held", x.count(10), 0);
        x.days(1);
        x.wipe(0, true);
        for (int s = 0; s < 3; s++) {
            Due.is("hold(" + s + ")", x.hold(s), true);
            Due.is("slots", x.count(10), s + 1);
        }
        Due.is("held anew", x.hold(1), true);
        Due.is("slots", x.count(10), 3);
        Due.is("it is no thing done", x.count(8), 2);
        Due.is("wiped in all of them", x.restore(2), true);
        Due.is("wiped", x.count(6), 1);
    }

    private static void restore() {
        Doc.promise(37, "It goes on from what a SLOT holds (that stays there; nothing can be undone then): true;");
        TrueInk x = Due.told(TEXT);
        String first = Due.goingOn(x);
        x.hold(0);
        x.set(0, 2);
        x.wipe(0, true);
        x.days(3);
        x.set(0, 3);
        String second = Due.goingOn(x);
        Due.is("y blinks in it", x.settled(0), 1);
        x.hold(2);
        x.see(2, 3, 4);
        Due.feed(x, "fact");
        x.set(1, 1);
        for (int i = 0; i < 2; i++) {
            Due.is("things done", x.count(8) > 0, true);
            Due.is("restore(0)", x.restore(0), true);
            Due.same("as it was", Due.goingOn(x), first);
            Due.is("nothing can be undone", x.count(8), 0);
            Due.is("nothing can be undone", x.undo(), false);
            Due.is("restore(2)", x.restore(2), true);
            Due.same("as it was", Due.goingOn(x), second);
            Due.is("nothing can be undone", x.undo(), false);
            Due.is("it goes on from there", x.days(2), 5);
            Due.is("one thing done", x.count(8), 1);
            Due.is("that stays there", x.count(10), 2);
        }
        Due.is("undone to what was held", x.undo(), true);
        Due.same("as it was", Due.goingOn(x), second);
        Due.is("seen as it was", x.count(9), 1);
        Due.is("known as it was", x.fits(1, -1), 4);
        Due.is("the tape as it was", x.count(7), 4);
        Due.is("a later hold", x.hold(0), true);
        x.set(0, 1);
        x.restore(0);
        Due.same("is in place of the one ahead", Due.goingOn(x), second);
        Doc.promise(37, "false, and nothing happens: no such one, nothing is held.");
        x.set(0, 0);
        String ahead = Due.whole(x);
        Due.is("nothing is held", x.restore(1), false);
        for (int s : outside(3)) {
            Due.is("restore(" + s + ")", x.restore(s), false);
        }
        Due.same("nothing happened", Due.whole(x), ahead);
        Due.is("still to be undone", x.undo(), true);
    }

    private static void restoreAndAsk() {
        TrueInk x = Due.told(TEXT);
        String first = Due.asked(x);
        x.hold(0);
        x.days(1);
        x.wipe(0, true);
        String second = Due.asked(x);
        x.hold(1);
        x.restore(0);
        Due.same("asked as it was", Due.asked(x), first);
        x.restore(1);
        Due.same("asked as it was", Due.asked(x), second);
    }

    private static void count() {
        Doc.promise(38, "0 FACTS, 1 PAGES, 2 the day, 3 SLIPS, 4 PAGES that are black (bits), 5 PAGES that FLICKER (bits), "
                + "6 wiped ones (bits), "
                + "7 bytes on the tape, 8 things that can be undone, 9 SEEN ones, 10 SLOTS that hold something, "
                + "11 FACTS that are mine (bits), "
                + "12 that are yours (bits).");
        TrueInk x = Due.told("fact a 1 0 mine; fact b 1 0; fact c 2 1 yours; fact d 1 1 mine; slips 7; seed 111;"
                + "page p all 1=1; page q all this=0; page r all p=4; page s some 1=0;");
        x.days(1);
        x.set(1, 1 - x.fact(1));
        x.wipe(3, true);
        x.see(0, 0, 4);
        x.hold(0);
        x.hold(2);
        Due.feed(x, "abc");
        int[] due = {4, 4, 1, 7, 1 + 4, 2, 8, 3, 3, 1, 2, 1 + 8, 4};
        for (int w = 0; w <= 12; w++) {
            Due.is("count(" + w + ")", x.count(w), due[w]);
        }
        TrueInk full = Due.told("fact a 1 0 yours;fact b 1 0 yours;fact c 1 0 yours;fact d 1 0 yours;fact e 1 0 yours;"
                + "fact f 1 0 yours;fact g 1 0 yours;"
                + "fact h 1 0 yours; slips 100; page p all this=0;page q all this=0;page r all 1=1;page s all 1=1;"
                + "page t all 1=1;page u all this=0;");
        Due.is("facts at most", full.count(0), 8);
        Due.is("pages at most", full.count(1), 6);
        Due.is("slips at most", full.count(3), 100);
        Due.is("black", full.count(4), 63);
        Due.is("flickering", full.count(5), 1 + 2 + 32);
        Due.is("mine", full.count(11), 0);
        Due.is("yours", full.count(12), 255);
        for (int p = 0; p < 6; p++) {
            full.wipe(p, true);
        }
        Due.is("all wiped", full.count(6), 63);
        Due.is("none black", full.count(4), 0);
        Due.is("none flickering", full.count(5), 0);
        full.days(4);
        Due.is("none black on day 4", full.count(4), 0);
        Doc.promise(38, "NONE for others.");
        for (int w : outside(13)) {
            Due.is("count(" + w + ")", x.count(w), -1);
        }
    }

    /** "An object is used for at most 512 calls": the last one of them is answered as the first one is. */
    private static void theLastCall() {
        String text = "fact a 3 0;slips 50;";
        TrueInk x = new TrueInk();
        Due.feed(x, text);
        Due.is("read", x.read(), 0);
        // One feed, one back and one read; 508 times 100 days, and one question.
        for (int i = 1; i <= 508; i++) {
            Due.is("days", x.days(100), 100 * i);
        }
        int a = 0;
        for (int d = 0; d < 50800; d++) {
            a = Due.lot(0, 8 * d) < 50 ? (a + 1) % 4 : a;
        }
        Due.is("the 512th call", x.fact(0), a);
    }
}
