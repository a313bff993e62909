/** What the parts II, III and IV of the document's terms say, sentence by sentence, and at their limits. */
public final class TermsTest {
    private static final String LEAST_INT = "256*256*128*256";

    public static void main(String[] args) {
        intsThatWrap();
        whatNamesAre();
        dividedByZero();
        firstIfThatHolds();
        lawsDividedByZero();
        heldToMost();
        shadesOfPages();
        settling();
        blinking();
        wild();
        daysGoBy();
        slipping();
        lots();
        byHand();
        whatWouldBe();
        worldsNumbered();
        standing();
        leastSet();
        leastAsItIs();
        whenAndHowLong();
        changedBehindDays();
        inEachOfWorlds();
        weights();
        weakestClaims();
        bestWorlds();
        roundAgain();
        twinWorlds();
        restsOfTwo();
        hopesBySeeds();
        seenAndKnown();
        worldsThatFit();
        fitsBehindDays();
        fitsBySlips();
        fitsOfMany();
        tellingMost();
        fewestThatTell();
        Doc.allTermsNamed(2, 4);
        Due.end();
    }

    private static void claim(String claim, boolean holds) {
        TrueInk x = Due.told("fact a 3 3; page p all " + claim + "; page q part a>1 and a=0;");
        Due.is(claim, x.page(0, 2), holds ? 1 : 0);
        Due.is("sense of " + claim, x.page(0, 5), -2);
    }

    private static void noSense(String claim) {
        TrueInk x = Due.told("fact a 3 3; page p all " + claim + "; page q some a=3 and " + claim + "; page r part a=3 and " + claim + ";");
        Due.is("true: " + claim, x.page(0, 2), 0);
        Due.is("without sense: " + claim, x.page(0, 5), 0);
        Due.is("not true: " + claim, x.page(0, 4), 0);
        Due.is("all: " + claim, x.page(0, 0), 0);
        Due.is("some: " + claim, x.page(1, 0), 4);
        Due.is("part: " + claim, x.page(2, 0), 2);
        Due.is("the second: " + claim, x.page(2, 5), 1);
    }

    private static void intsThatWrap() {
        Doc.terms(2, "E: ints of 32 bits that wrap, / rounded towards 0.");
        claim(LEAST_INT + "<0", true);
        claim(LEAST_INT + "-1>0", true);
        claim(LEAST_INT + "-1+1<0", true);
        claim("0-" + LEAST_INT + "=" + LEAST_INT, true);
        claim("(" + LEAST_INT + ")/(0-1)=" + LEAST_INT, true);
        claim("(" + LEAST_INT + ")*(0-1)=" + LEAST_INT, true);
        claim("(" + LEAST_INT + "-1)*2=0-2", true);
        claim("256*256*256*256=0", true);
        claim("9999*9999*22<0", true);
        claim("9999*9999*22-" + LEAST_INT + "=9999*5208+1582", true);
        claim("7/2=3", true);
        claim("(0-7)/2=0-3", true);
        claim("7/(0-2)=0-3", true);
        claim("(0-7)/(0-2)=3", true);
        claim("1/2=0", true);
        claim("(0-1)/2=0", true);
        claim("0/9999=0", true);
        claim("7-3-2=2", true);
        claim("64/4/2=8", true);
        claim("2*7/2*3=21", true);
        claim("1+2*3-4/2=5", true);
        claim("(1+2)*(3-4)/2=0-1", true);
        claim("1<1", false);
        claim("0<1", true);
        claim("1>1", false);
        claim("1>0", true);
        claim("0-1<0", true);
    }

    private static void whatNamesAre() {
        Doc.terms(2, "A NAME is what the FACT is, or the SHADE of the PAGE; this: the SHADE of the PAGE itself; day: which it is.");
        claim("a=3", true);
        claim("q=2", true);
        claim("day=0", true);
        claim("this<5", true);
        TrueInk x = Due.told("fact a 3 1; page p all q+a=5; page q all day<2; page r some this=4 and day=1;");
        Due.is("q black", x.page(0, 0), 4);
        x.set(0, 2);
        Due.is("a is 2", x.page(0, 0), 0);
        x.days(1);
        Due.is("day 1", x.page(2, 0), 4);
        x.days(1);
        Due.is("this stays", x.page(2, 0), 4);
        Due.is("day 2", x.page(1, 0), 0);
    }

    private static void dividedByZero() {
        Doc.terms(2, "A CLAIM in which something is divided by 0 has no sense: it is not true.");
        noSense("1/0=1");
        noSense("1/0=1/0");
        noSense("0/0=0");
        noSense("0*(1/0)=0");
        noSense("1/(a-3)<9");
        noSense("9>1/(a-3)");
        noSense("0<1+2*(3-4/(a/4))");
        noSense("1/(256*256*256*256)=0");
        noSense("1/day=1");
        claim("0/(a-2)=0", true);
        TrueInk x = Due.told("page p all 1/q=0; page q some this=4 and day=1;");
        Due.is("by a white page", x.page(0, 5), 0);
        x.days(1);
        Due.is("by a black page", x.page(0, 5), -2);
        Due.is("which is true", x.page(0, 0), 4);
    }

    private static void law(String goes, int... due) {
        TrueInk x = Due.told("fact a 3 " + due[0] + "; goes a = " + goes + ";");
        for (int d = 1; d < due.length; d++) {
            x.days(1);
            Due.is(goes + " on day " + d, x.fact(0), due[d]);
        }
    }

    private static void firstIfThatHolds() {
        Doc.terms(2, "LAWS: the E of the first if that holds, else the last one;");
        law("2", 0, 2, 2);
        law("if 0<1 then 1 else 2", 0, 1);
        law("if 1<1 then 1 else 2", 0, 2);
        law("if 0<1 then 1 else if 0<1 then 2 else 3", 0, 1);
        law("if 1<0 then 1 else if 0<1 then 2 else 3", 0, 2);
        law("if 1<0 then 1 else if 1<0 then 2 else 3", 0, 3);
        law("if 0<0 then 0 else if 1<1 then 0 else if 2<2 then 0 else if 3<4 then 2 else 1", 1, 2);
        law("if 0<0 then 0 else if 1<1 then 0 else if 2<2 then 0 else if 4<4 then 2 else 1", 0, 1);
        law("if a<1 then 2 else if a<3 then 1+2 else 0", 0, 2, 3, 0, 2);
    }

    private static void lawsDividedByZero() {
        Doc.terms(2, "one in which something that is looked at is divided by 0 leaves the FACT as it is;");
        law("1/0", 2, 2, 2);
        law("1/(a-2)", 2, 2, 2);
        law("0*(1/0)", 2, 2);
        law("if 1/0<1 then 3 else 1", 2, 2);
        law("if 0<1/0 then 3 else 1", 2, 2);
        law("if 0<1 then 1/0 else 3", 2, 2);
        law("if 1<0 then 3 else 1/0", 2, 2);
        law("if 1<0 then 3 else if 1/0<1 then 0 else 1", 2, 2);
        // What is not looked at does no harm.
        law("if 0<1 then 3 else 1/0", 2, 3);
        law("if 1<0 then 1/0 else 3", 2, 3);
        law("if 0<1 then 3 else if 1/0<1 then 0 else 1", 2, 3);
        TrueInk x = Due.told("fact a 3 2; goes a = 1; goes a = 1/0; slips 100;");
        x.days(1);
        Due.is("it slips still", x.fact(0), 3);
    }

    private static void heldToMost() {
        Doc.terms(2, "held to 0 .. MOST.");
        law("a+1", 2, 3, 3);
        law("a-1", 1, 0, 0);
        law("4", 0, 3);
        law("0-1", 2, 0);
        law("9999", 0, 3);
        law(LEAST_INT, 2, 0);
        law(LEAST_INT + "-1", 2, 3);
        for (int most = 1; most <= 3; most++) {
            TrueInk x = Due.told("fact a " + most + " 0; fact b " + most + " 0; goes a = " + most + "; goes b = " + (most + 1) + ";");
            x.days(1);
            Due.is("the most", x.fact(0), most);
            Due.is("one above", x.fact(1), most);
        }
    }

    private static String claims(int hold, int of) {
        StringBuilder b = new StringBuilder();
        for (int i = 0; i < of; i++) {
            b.append(i == 0 ? "" : " and ").append(i < hold ? "1=1" : "1=0");
        }
        return b.toString();
    }

    private static void shadesOfPages() {
        Doc.terms(2, "SHADE of a PAGE: 0 white to 4 black: 'all': 4 if all its CLAIMS are true, else 0;");
        Doc.terms(2, "'some': 4 if some are, else 0;");
        Doc.terms(2, "'part': 4 times how many are, by how many there are, rounded down.");
        int[][] part = {{0, 4}, {0, 2, 4}, {0, 1, 2, 4}, {0, 1, 2, 3, 4}, {0, 0, 1, 2, 3, 4}, {0, 0, 1, 2, 2, 3, 4}};
        for (int of = 1; of <= 6; of++) {
            for (int hold = 0; hold <= of; hold++) {
                String c = claims(hold, of);
                TrueInk x = Due.told("page p all " + c + "; page q some " + c + "; page r part " + c + ";");
                Due.is("all: " + c, x.page(0, 0), hold == of ? 4 : 0);
                Due.is("some: " + c, x.page(1, 0), hold > 0 ? 4 : 0);
                Due.is("part: " + c, x.page(2, 0), part[of - 1][hold]);
            }
        }
        Doc.terms(2, "A wiped one is 0.");
        for (String how : new String[] {"all", "some", "part"}) {
            TrueInk x = Due.told("page p " + how + " 1=1;");
            x.wipe(0, true);
            Due.is("wiped: " + how, x.page(0, 0), 0);
            x.days(1);
            Due.is("wiped on the next day: " + how, x.page(0, 0), 0);
        }
    }

    private static void settledAs(TrueInk x, String which, int... due) {
        Due.is("how: " + which, x.settled(0), due[0]);
        Due.is("steps: " + which, x.settled(1), due[1]);
        Due.is("round: " + which, x.settled(2), due[2]);
        Due.is("flickers: " + which, x.count(5), due[3]);
    }

    private static void told(String text, int... due) {
        settledAs(Due.told(text), text, due);
    }

    private static void settling() {
        Doc.terms(2, "SETTLING: step by step all PAGES get their SHADES anew at once, by the SHADES as they are:");
        told("page p all 1=1; page q all p=4; page r all q=4;", 0, 3, 0, 0);
        told("page r all q=4; page q all p=4; page p all 1=1;", 0, 3, 0, 0);
        told("page p all q=0; page q all p=0;", 1, 2, 2, 3);
        Doc.terms(2, "till a step changes nothing (SETTLED),");
        told("", 0, 0, 0, 0);
        told("page p all 1=0;", 0, 0, 0, 0);
        told("page p all 1=1;", 0, 1, 0, 0);
        TrueInk x = Due.told(Samples.stepTo300(0));
        settledAs(x, "up to 1", 0, 1, 0, 0);
        x.set(0, 1);
        // 299 steps changed something, and the 300th nothing.
        settledAs(x, "up to 300 from 1 on", 0, 299, 0, 0);
        Due.is("c", x.page(2, 0), 2);
    }

    private static void blinking() {
        Doc.terms(2, "or SHADES come back that all PAGES had together ahead of some step of it "
                + "(they BLINK: those PAGES FLICKER that do not have one SHADE in all steps from there on round),");
        told("page p all this=0;", 1, 2, 2, 1);
        // p is black from the first step on, and does not flicker, though it was white once.
        told("page p all 1=1; page q all this=0 and p=4;", 1, 3, 2, 2);
        told("page p all q=4; page q all r=4; page r all p=0;", 1, 6, 6, 7);
        // They come back to what was ahead of the very first step, or of a later one.
        told("page c part this<4 and this*(4-this)>0 and (this-1)*(4-this)>0 and this=3;", 1, 5, 5, 1);
        told("page c part this<4 and this>0 and this>1 and this*(4-this)>2;", 1, 5, 2, 1);
        TrueInk x = Due.told("page p all this=0; page q all 1=0;");
        Due.is("p", x.page(0, 1), 1);
        Due.is("q", x.page(1, 1), 0);
    }

    private static void wild() {
        Doc.terms(2, "or 300 steps are done (WILD: none FLICKERS);");
        TrueInk x = Due.told(Samples.stepTo300(1));
        settledAs(x, "up to 300", 2, 300, 0, 0);
        Doc.terms(2, "SHADES stay as they are then.");
        int[] due = {0, 0, 2, 2};
        for (int p = 0; p < 4; p++) {
            Due.is("behind 300 steps: " + p, x.page(p, 0), due[p]);
        }
        x.days(1);
        settledAs(x, "from 300 on", 0, 0, 0, 0);
        TrueInk y = Due.told("page p all this=0; page q all 1=1;");
        Due.is("blinks: as it is when it comes back", y.page(0, 0), 4);
        TrueInk z = Due.told("page p all this=0;");
        Due.is("blinks: as it is when it comes back", z.page(0, 0), 0);
        // What comes back with the 300th step itself blinks.
        TrueInk b = Due.told("page a part this<4 and this*(4-this)>0 and (this-1)*(4-this)>0 and this=3;"
                + "page b part T*(5-T)>0 and (T-1)*(5-T)>0 and (T-2)*(5-T)>0 and T=4;".replace("T", "(this+a/4)")
                + "page m part this<3 and this*(3-this)>0 and this=2 and 1=0; page n part this<2 and this=1 and 1=0 and 1=0;");
        settledAs(b, "round in 300", 1, 300, 300, 15);
    }

    private static void daysGoBy() {
        Doc.terms(2, "A DAY: FACTS get by their LAWS what they are on the next day, all at once (by FACTS and SHADES as they are);");
        TrueInk x = Due.told("fact a 3 1; fact b 3 2; fact c 3 3; fact d 3 0; goes a = b; goes b = a; goes d = p; page p all d=0;");
        x.days(1);
        Due.is("a", x.fact(0), 2);
        Due.is("b", x.fact(1), 1);
        Due.is("c", x.fact(2), 3);
        Due.is("d by the page as it was", x.fact(3), 3);
        Due.is("the page then", x.page(0, 0), 0);
        Doc.terms(2, "then it is the next day, and they are SETTLING.");
        TrueInk y = Due.told("fact a 3 0; goes a = day*3; page p all day=1; page q all a=0; page l all this=0 and day=1;");
        Due.is("day", y.days(1), 1);
        Due.is("the law saw day 0", y.fact(0), 0);
        Due.is("the pages see day 1", y.page(0, 0), 4);
        Due.is("q", y.page(1, 0), 4);
        Due.is("they blink", y.settled(0), 1);
        y.days(1);
        Due.is("the law saw day 1", y.fact(0), 3);
        Due.is("they settle", y.settled(0), 0);
        Due.is("from black", y.settled(1), 1);
    }

    private static void slipping() {
        Doc.terms(2, "then FACT by FACT, if LOT 100 of the SEED and 8 * the day and its number is less than SLIPS, "
                + "it SLIPS: it is 1 more, or 0 if it was the MOST;");
        for (int most = 1; most <= 3; most++) {
            TrueInk x = Due.told("fact a " + most + " 0; slips 100;");
            for (int d = 1; d <= 9; d++) {
                x.days(1);
                Due.is("round by " + most, x.fact(0), d % (most + 1));
            }
        }
        TrueInk y = Due.told("fact a 3 0; fact b 3 0; goes a = 3; goes b = a; slips 100;");
        y.days(1);
        Due.is("behind its law", y.fact(0), 0);
        Due.is("the law saw what had not slipped", y.fact(1), 1);
        TrueInk z = Due.told("fact a 3 2; seed 9999;");
        z.days(100);
        Due.is("slips 0", z.fact(0), 2);
        String eight = "";
        for (int f = 0; f < 8; f++) {
            eight += "fact " + (char) ('a' + f) + " 1 0;";
        }
        for (int seed : new int[] {0, 1, 77, 9999}) {
            for (int f = 0; f < 8; f++) {
                justSlips(eight, seed, 0, f);
                justSlips(eight, seed, 1, f);
                justSlips(eight, seed, 100, f);
            }
        }
    }

    /** With as many slips as its lot is the fact stays, with one more it slips. */
    private static void justSlips(String facts, int seed, int day, int fact) {
        int lot = Due.lot(seed, 8 * day + fact);
        for (int slips = lot; slips <= lot + 1; slips++) {
            TrueInk x = Due.told(facts + "seed " + seed + "; slips " + slips + ";");
            x.days(day);
            int ahead = x.fact(fact);
            x.days(1);
            Due.is("seed " + seed + " day " + day + " fact " + fact + " slips " + slips, x.fact(fact) != ahead, slips > lot);
        }
    }

    private static void lots() {
        Doc.terms(2, "LOT n of a SEED and a which: h is the SEED; for each of 41, which: h becomes (h and it, "
                + "each bit of which is in just one) "
                + "times 1103515245 and 12345 more, then h and h moved 15 bits down (zeros come in), likewise; "
                + "the rest of h, moved 1 bit down likewise, by n (32 bits that wrap).");
        // Worked out apart from all Java.
        int[][] seedWhichLot = {{0, 0, 4}, {0, 7, 48}, {0, 8, 37}, {1, 0, 25}, {9999, 0, 95}, {9999, 7, 36}, {9999, 799, 42},
            {4711, 40, 91}, {111, 0, 0}, {130, 0, 99}};
        for (int[] s : seedWhichLot) {
            Due.is("lot of " + s[0] + " and " + s[1], Due.lot(s[0], s[1]), s[2]);
        }
        Due.is("lot 0, slips 0", slippedFirst(111, 0), 0);
        Due.is("lot 0, slips 1", slippedFirst(111, 1), 1);
        Due.is("lot 99, slips 99", slippedFirst(130, 99), 0);
        Due.is("lot 99, slips 100", slippedFirst(130, 100), 1);
        Due.is("lot 4, slips 4", slippedFirst(0, 4), 0);
        Due.is("lot 4, slips 5", slippedFirst(0, 5), 1);
    }

    private static int slippedFirst(int seed, int slips) {
        TrueInk x = Due.told("fact a 1 0; seed " + seed + "; slips " + slips + ";");
        x.days(1);
        return x.fact(0);
    }

    private static void byHand() {
        Doc.terms(2, "By hand: a FACT is SET to something else, a PAGE is WIPED, or written anew as it was: they are SETTLING then.");
        TrueInk x = Due.told("fact a 1 0; page p some a=1 and this=4; page q all p=0; page r all a=1 and this=0;");
        Due.is("q is black", x.count(4), 2);
        x.set(0, 1);
        Due.is("p is black, q white", x.count(4) & 3, 1);
        Due.is("r blinks", x.settled(0), 1);
        Due.is("day", x.count(2), 0);
        x.set(0, 0);
        Due.is("from the shades as they are", x.count(4), 1);
        Due.is("settled", x.settled(0), 0);
        x.wipe(0, true);
        Due.is("q sees it white", x.count(4), 2);
        x.wipe(0, false);
        Due.is("written anew it is white, as nothing makes it black", x.count(4), 2);
        x.set(0, 1);
        Due.is("its claims are as they were", x.page(0, 0), 4);
        Due.is("how many", x.page(0, 3), 2);
    }

    private static void whatWouldBe() {
        Doc.terms(3, "What would be (nothing happens).");
        TrueInk x = Due.told("fact a 3 0 mine; fact b 1 1 yours; goes a = a+p; page p some a=1 and this=0; page q part a>0 and "
                + "b>0 and p=4; slips 20;");
        x.days(3);
        x.set(0, (x.fact(0) + 1) % 4);
        x.see(0, 2, 4);
        String ahead = Due.whole(x);
        x.stands(-1);
        x.stands(0);
        x.least(0, 0);
        x.least(1, 1);
        x.when(0);
        x.stays(1);
        x.longest(0, 300);
        x.changed(300);
        x.shade(1, 300);
        x.blackIn(0);
        x.grey(1, true);
        x.weight(1, 0);
        x.weakest(1, 0);
        x.bestWorld(0);
        x.again(0);
        x.twins(30, 0);
        x.rests(0, 1, -1);
        x.hopes(0, 100, 20);
        x.fits(1, 0);
        x.sure(1);
        x.next(1, 30, 0);
        x.fewest(30, 0);
        Due.same("nothing happened", Due.whole(x), ahead);
        Due.is("one more day", x.days(1), 4);
    }

    private static void worldsNumbered() {
        Doc.terms(3, "WORLDS: all ways in which FACTS can be, numbered: FACT 0 counts 1, "
                + "each next one as much as all ahead of it have ways.");
        for (int c = 0; c <= 1; c++) {
            for (int b = 0; b <= 3; b++) {
                for (int a = 0; a <= 2; a++) {
                    TrueInk x = Due.told("fact a 2 " + a + "; fact b 3 " + b + "; fact c 1 " + c + ";");
                    Due.is("world " + a + b + c, x.world(0), a + 3 * b + 12 * c);
                    Due.is("worlds", x.world(1), 24);
                }
            }
        }
        Due.is("no facts", Due.told("page p all 1=1;").world(0), 0);
        Due.is("one way", Due.told("page p all 1=1;").world(1), 1);
    }

    private static void standing() {
        Doc.terms(3, "STANDS: SHADES of all PAGES together that a step does not change, FACTS and the day as they are: "
                + "how many, numbered likewise (PAGE 0 counts 1, each next one five times as much).");
        TrueInk x = Due.told("page p" + Samples.ANY + "page q all p>1; page r some this=4 and p=0;");
        int[] due = {1, 22, 23, 24, 100, 101, 122, 123, 124};
        Due.is("how many", x.stands(-1), due.length);
        for (int i = 0; i < due.length; i++) {
            Due.is("stands(" + i + ")", x.stands(i), due[i]);
        }
        Due.is("no pages: one way", new TrueInk().stands(-1), 1);
        Due.is("its number", new TrueInk().stands(0), 0);
        Due.is("none", Due.told("page l all this=0;").stands(-1), 0);
        TrueInk y = Due.told("fact a 1 0; page p some this=4 and a=1 and day=2;");
        Due.is("two", y.stands(-1), 2);
        y.set(0, 1);
        Due.is("by facts", y.stands(-1), 1);
        Due.is("black", y.stands(0), 4);
        y.set(0, 0);
        y.days(2);
        Due.is("by the day", y.stands(-1), 1);
        y.wipe(0, true);
        Due.is("wiped: white alone", y.stands(0), 0);
        Due.is("wiped", y.stands(-1), 1);
        String six = "";
        for (int p = 0; p < 6; p++) {
            six += "page " + (char) ('a' + p) + Samples.ANY;
        }
        TrueInk z = Due.told(six);
        Due.is("all of them", z.stands(-1), 15625);
        for (int i : new int[] {0, 1, 4, 5, 31, 32, 62, 63, 64, 65, 127, 128, 3125, 7777, 15623, 15624}) {
            Due.is("each its own number", z.stands(i), i);
        }
        Due.is("no more", z.stands(15625), -1);
    }

    private static void leastSet() {
        Doc.terms(3, "LEAST for a PAGE: the fewest FACTS that must be SET (all, then SETTLING; none: as it is) so that it is black then, "
                + "SETTLED or not: the WORLD, of alike ones the least.");
        TrueInk x = Due.told("fact a 1 1; fact b 1 0; fact c 1 0; page p all a+b+c=2; page q all a+b+c=0; page r all a=1; "
                + "page s all a+b+c=3;");
        Due.is("one of two", x.least(0, 0), 1);
        Due.is("the least", x.least(0, 1), 3);
        Due.is("back to 0", x.least(1, 1), 0);
        Due.is("as it is", x.least(2, 0), 0);
        Due.is("where it is", x.least(2, 1), 1);
        Due.is("two", x.least(3, 0), 2);
        Due.is("the last world", x.least(3, 1), 7);
        // Fewer facts count more than a lesser number.
        TrueInk f = Due.told("fact a 1 1; fact b 1 1; fact c 1 0; page p all a+b=0 and c=0; page q some a+b+c=0 and a+b+c=3;");
        Due.is("both", f.least(0, 0), 2);
        Due.is("one, though 7 is more than 0", f.least(1, 1), 7);
        TrueInk e = Due.told("fact a 1 0;fact b 1 0;fact c 1 0;fact d 1 0;fact e 1 0;fact f 1 0;fact g 1 0;fact h 1 0;"
                + "page p all a+b+c+d+e+f+g+h=8;");
        Due.is("all eight", e.least(0, 0), 8);
        Due.is("the last world", e.least(0, 1), 255);
        // It blinks in that world, and is black when it comes back.
        TrueInk y = Due.told("fact a 1 0; page p all a=1; page l all this=0 and a=1;");
        Due.is("settled or not", y.least(1, 0), 1);
        Due.is("which", y.least(1, 1), 1);
        Due.is("white when it comes back", Due.told("fact a 1 0; page l all this=0 and a=1;").least(0, 0), -2);
        // h would have become black on the way, had b been set behind a and not together with it.
        TrueInk z = Due.told("fact a 1 0; fact b 1 0; page h some a-b=1 and this=4; page k all a*b=1 and h=4;");
        Due.is("all, then settling", z.least(1, 0), -2);
        z.set(0, 1);
        Due.is("from the shades as they are", z.least(1, 1), 3);
    }

    private static void leastAsItIs() {
        // Behind 300 steps q has not yet seen the end of the count, and r shows the step ahead of it.
        TrueInk x = Due.told(Samples.stepTo300(1) + "page q all a+b=0 and d=2; page r all c=1 and d=2 and a*b=16;");
        Due.is("wild", x.settled(0), 2);
        Due.is("q", x.page(4, 0), 0);
        Due.is("r", x.page(5, 0), 4);
        Due.is("r is black as it is", x.least(5, 0), 0);
        Due.is("where it is", x.least(5, 1), 1);
        Due.is("settling anew it would not be", x.blackIn(5), 0);
        Due.is("q is not as it is, so f must be set", x.least(4, 0), 1);
        Due.is("which", x.least(4, 1), 0);
        Due.is("settling anew it would be", x.blackIn(4), 2);
        Due.is("best as it is", x.bestWorld(0), 1);
        Due.is("with q", x.bestWorld(1), 1);
    }

    private static void whenAndHowLong() {
        String text = "page a all day=300; page b all day=301; page c all day<299; page d all day<300; page e all day<301; "
                + "page f all day<1;";
        TrueInk x = Due.told(text);
        Doc.terms(3, "WHEN: behind how many DAYS (0 .. 300) it is black for the first time.");
        Due.is("when 300", x.when(0), 300);
        Due.is("when 301", x.when(1), -2);
        Due.is("when 0", x.when(2), 0);
        Doc.terms(3, "STAYS: for how many DAYS on end (0 .. 300), from now on, it is black.");
        Due.is("stays 0", x.stays(0), 0);
        Due.is("stays 299", x.stays(2), 299);
        Due.is("stays 300", x.stays(3), 300);
        Due.is("stays 301", x.stays(4), 300);
        Due.is("stays 1", x.stays(5), 1);
        Doc.terms(3, "LONGEST in n DAYS (0 .. 300): how many days on end, today the first, n DAYS from now the last, it is black at most.");
        Due.is("today alone", x.longest(5, 0), 1);
        Due.is("not today", x.longest(0, 0), 0);
        Due.is("the last day not yet", x.longest(0, 299), 0);
        Due.is("the last day", x.longest(0, 300), 1);
        Due.is("299", x.longest(2, 300), 299);
        Due.is("300", x.longest(3, 300), 300);
        Due.is("301", x.longest(4, 300), 301);
        Due.is("301 of 299", x.longest(4, 299), 300);
        TrueInk y = Due.told("page p some day<2 and (day-3)*(8-day)>0 and day=9;");
        // Black on days 0 and 1, 4 to 7, and 9.
        int[] longest = {1, 2, 2, 2, 2, 2, 3, 4, 4, 4, 4};
        for (int n = 0; n < longest.length; n++) {
            Due.is("longest in " + n, y.longest(0, n), longest[n]);
        }
        y.days(2);
        Due.is("from now on", y.longest(0, 2), 1);
        Due.is("when", y.when(0), 2);
        Due.is("stays", y.stays(0), 0);
    }

    private static void changedBehindDays() {
        Doc.terms(3, "CHANGED behind n DAYS (0 .. 300): which PAGES have another SHADE than now.");
        TrueInk x = Due.told("page a all day<1; page b all day=300; page c all 1=1; page d part day>0 and day>1; "
                + "page e all day=0; page f all day<301;");
        Due.is("behind 0", x.changed(0), 0);
        Due.is("behind 1", x.changed(1), 1 + 8 + 16);
        Due.is("behind 299", x.changed(299), 1 + 8 + 16);
        Due.is("behind 300", x.changed(300), 1 + 2 + 8 + 16);
        x.days(1);
        Due.is("than now", x.changed(0), 0);
        Due.is("than now", x.changed(1), 8);
        Due.is("day 301", x.changed(300), 8 + 32);
    }

    private static void inEachOfWorlds() {
        Doc.terms(3, "In each of WORLDS, FACTS being so, PAGES are SETTLING from SHADES as they are now: BLACK IN: "
                + "in how many a PAGE is black then;");
        TrueInk x = Due.told("fact a 3 0; fact b 1 0; page p all a=3 and b=1; page n all a>3; page e all a<4; "
                + "page h some this=4 and a=3; page l all this=0 and a>1;");
        Due.is("one", x.blackIn(0), 1);
        Due.is("none", x.blackIn(1), 0);
        Due.is("all", x.blackIn(2), 8);
        Due.is("from white", x.blackIn(3), 2);
        x.set(0, 3);
        x.set(0, 0);
        Due.is("from black", x.blackIn(3), 8);
        x.wipe(2, true);
        Due.is("wiped", x.blackIn(2), 0);
        Due.is("no facts: one world", Due.told("page p all 1=1;").blackIn(0), 1);
        Doc.terms(3, "GREY: its SHADES in all of them together by 4 times how many WORLDS there are, a fraction that cannot be lessened.");
        grey("page p all a>9;", 0, 1);
        grey("page p all a<9;", 1, 1);
        grey("page p all a=0;", 1, 3);
        grey("page p all a>0;", 2, 3);
        grey("page p part a>0 and a>1;", 1, 2);
        grey("page p part a=0 and 1=0 and 1=0 and 1=0;", 1, 12);
        grey("page p part a>0 and 1=0 and 1=0 and 1=0;", 1, 6);
        grey("page p part a>0 and a>0 and a>0 and a>1;", 7, 12);
    }

    /** Of three worlds, a being 0, 1 or 2. */
    private static void grey(String page, int above, int below) {
        TrueInk x = Due.told("fact a 2 1; " + page);
        Due.is("above: " + page, x.grey(0, false), above);
        Due.is("below: " + page, x.grey(0, true), below);
    }

    private static void weights() {
        Doc.terms(3, "WEIGHT of a FACT for a PAGE: in how many WORLDS the PAGE has another SHADE than if the FACT were 1 more (0 if it is the MOST).");
        TrueInk x = Due.told("fact a 3 0; fact b 1 0; fact c 2 1; page p all a=3; page q part a>0 and a>1 and a>2 and a>9; "
                + "page r all a=0 and b=1; page s all 1=1; page t all c=2;");
        // From 2 to 3, and from 3 round to 0; in each of six ways of b and c.
        Due.is("a for p", x.weight(0, 0), 12);
        Due.is("b for p", x.weight(0, 1), 0);
        Due.is("all round", x.weight(1, 0), 24);
        Due.is("a for r: where b is 1", x.weight(2, 0), 6);
        Due.is("b for r: both ways, where a is 0", x.weight(2, 1), 6);
        Due.is("never", x.weight(3, 0), 0);
        Due.is("the last fact", x.weight(4, 2), 16);
    }

    private static void weakestClaims() {
        Doc.terms(3, "WEAKEST of a PAGE: the CLAIM that is not true in most WORLDS (SHADES as they are then), of alike ones the first.");
        TrueInk x = Due.told("fact a 3 0; page p all a<2 and a=1 and a=2 and 1/a=1; page q all a<9; page r part a>0 and p=4 and this>0;"
                + "page s some a<9 and 1=0 and a=1 and 1=0;");
        // Not true in 2, 3, 3 and 3 worlds (1/a is 1 for 1 alone).
        Due.is("the first of three", x.weakest(0, 0), 1);
        Due.is("in three", x.weakest(0, 1), 3);
        Due.is("none is untrue: the first", x.weakest(1, 0), 0);
        Due.is("in none", x.weakest(1, 1), 0);
        // No world makes p black; this>0 where a>0.
        Due.is("shades as they are then", x.weakest(2, 0), 1);
        Due.is("in all", x.weakest(2, 1), 4);
        Due.is("of alike ones", x.weakest(3, 0), 1);
        TrueInk y = Due.told("fact a 3 0; page p all q=4 and q=0; page q all a=3;");
        // Pages settle first: q is black in one world, so q=0 is untrue there and q=4 elsewhere.
        Due.is("weakest", y.weakest(0, 0), 0);
        Due.is("in three", y.weakest(0, 1), 3);
        y.wipe(1, true);
        Due.is("wiped q", y.weakest(0, 1), 4);
        TrueInk z = Due.told("page p all 1=1 and 1=0 and 1=0 and 1=0 and 1=0 and 2=0;");
        Due.is("six claims", z.weakest(0, 0), 1);
    }

    private static void bestWorlds() {
        Doc.terms(3, "BEST WORLD: that in which most PAGES are black; of alike ones with the fewest FACTS that must be SET, "
                + "then the least.");
        TrueInk x = Due.told("fact a 1 0; fact b 1 0; fact c 1 1; page p all a=1; page q all b=1; page r all a+b+c=1;");
        Due.is("most pages", x.bestWorld(1), 2);
        // Two are black where a and b are 1, or one of them alone; 0 to be set: none of these.
        Due.is("two facts to be set", x.bestWorld(2), 2);
        Due.is("the least of those", x.bestWorld(0), 1);
        x.set(0, 1);
        // a and c are 1: to set b, or to set c.
        Due.is("one fact", x.bestWorld(2), 1);
        Due.is("the least", x.bestWorld(0), 1);
        x.set(1, 1);
        Due.is("as it is", x.bestWorld(2), 0);
        Due.is("though 1 is less", x.bestWorld(0), 7);
        Due.is("none black", Due.told("fact a 3 3; page p all a>9;").bestWorld(0), 3);
        Due.is("none black", Due.told("fact a 3 3; page p all a>9;").bestWorld(1), 0);
        Due.is("no pages", Due.told("fact a 3 3;").bestWorld(0), 3);
    }

    private static void roundAgain() {
        Doc.terms(3, "ROUND AGAIN: the first DAYS behind which FACTS and SHADES are all as they were ahead (0 .. 300, as they go): "
                + "behind how many, and as behind how many DAYS.");
        again("fact a 3 0;", 1, 0);
        again("fact a 1 0; goes a = 1-a;", 2, 0);
        again("fact a 1 1; goes a = 1-a;", 2, 0);
        again("fact a 3 3; goes a = 0;", 2, 1);
        again("fact a 3 0; goes a = a+1;", 4, 3);
        again(Samples.ROUND, 4, 0);
        again("fact a 1 0; goes a = 1-a; page p all day=0;", 3, 1);
        again("page p all day=1;", 2, 0);
        again(Samples.countTo300(1), 300, 299);
        again(Samples.countTo300(0), -2, -2);
        TrueInk x = Due.told(Samples.countTo300(0));
        x.days(1);
        Due.is("from now on", x.again(0), 300);
        x.days(99);
        Due.is("as it goes", x.again(0), 201);
        Due.is("as behind", x.again(1), 200);
        again("fact a 1 0; slips 100;", 2, 0);
    }

    private static void again(String text, int behind, int as) {
        TrueInk x = Due.told(text);
        Due.is("again: " + text, x.again(0), behind);
        Due.is("as: " + text, x.again(1), as);
    }

    private static void twinWorlds() {
        Doc.terms(3, "TWINS behind n DAYS (0 .. 30): the first WORLD in the beginning, by number, "
                + "that has all SHADES behind them as one of a lesser number; "
                + "and the first such one.");
        TrueInk x = Due.told("fact a 3 0; page p all a=1; page q all a=2; goes a = if a<3 then 0 else 3; page r all day=30 and a=3;");
        Due.is("lesser", x.twins(0, 0), 0);
        Due.is("other", x.twins(0, 1), 3);
        Due.is("behind a day", x.twins(1, 1), 1);
        Due.is("behind 30", x.twins(30, 1), 1);
        TrueInk y = Due.told("fact a 2 0; fact b 1 0; page p part a>0 and a>1 and 1=0 and 1=0; page q all b=1 and day<30;");
        Due.is("none behind 29", y.twins(29, 0), -2);
        Due.is("behind 30", y.twins(30, 0), 0);
        Due.is("behind 30", y.twins(30, 1), 3);
        y.set(0, 2);
        y.wipe(0, true);
        y.days(30);
        Due.is("in the beginning", y.twins(0, 0), -2);
        Due.is("one world has no twin", Due.told("page p all 1=1;").twins(0, 0), -2);
        Due.is("no pages", Due.told("fact a 1 0;").twins(30, 1), 1);
    }

    private static void restsOfTwo() {
        Doc.terms(3, "RESTS of two PAGES, MY one and YOUR one: WORLDS in which FACTS that are neither mine nor yours are as they are now, "
                + "and by changing mine alone YOUR PAGE would not be whiter, "
                + "by changing yours alone MY PAGE would not be (each SETTLING from SHADES as they are now).");
        TrueInk x = Due.told("fact a 2 0 mine; fact b 1 0 yours; fact c 1 1; page m part b=0 and c=1; page y part a=0 and "
                + "a<2 and c=1 and b=1;");
        // I make y white by a = 2, you make m white by b = 1.
        Due.is("one", x.rests(0, 1, -1), 1);
        Due.is("which", x.rests(0, 1, 0), 2 + 3 + 6);
        // The other way round nobody can whiten anything: a does nothing to m, b does to y.
        Due.is("a and b for themselves", x.rests(1, 0, -1), 3);
        int[] due = {6, 7, 8};
        for (int i = 0; i < 3; i++) {
            Due.is("b stays 0", x.rests(1, 0, i), due[i]);
        }
        x.set(2, 0);
        Due.is("the others as they are", x.rests(0, 1, 0), 2 + 3);
        // Nobody's facts: the world as it is, whatever the pages are.
        TrueInk n = Due.told("fact a 2 1; page m all a=1; page y all a=1;");
        Due.is("as it is", n.rests(0, 1, -1), 1);
        Due.is("which", n.rests(0, 1, 0), 1);
        // Two facts of mine, changed together: y is whiter only if both are.
        TrueInk t = Due.told("fact a 1 0 mine; fact b 1 0 mine; page m all 1=1; page y some a+b<2 and a+b>2;");
        Due.is("both of mine", t.rests(0, 1, -1), 1);
        Due.is("which", t.rests(0, 1, 0), 3);
        // Black once it stays black, so nothing makes it whiter.
        TrueInk s = Due.told("fact a 1 1 mine; page m all 1=1; page y some a=1 and this=4;");
        Due.is("from shades as they are", s.rests(0, 1, -1), 2);
        Due.is("none", Due.told("fact a 1 0 mine; fact b 1 0 yours; page m all a=b; page y some a<b and a>b;").rests(0, 1, -1), 0);
    }

    private static void hopesBySeeds() {
        Doc.terms(3, "HOPES: with how many of SEEDS, s (1 .. 20) from the text's SEED on, a PAGE is black behind n DAYS (0 .. 100).");
        TrueInk x = Due.told("fact a 1 0; slips 50; seed 9990; page p all a=1; page q all a=0;");
        int due = 0;
        for (int s = 1; s <= 20; s++) {
            due += Due.lot(9990 + s - 1, 0) < 50 ? 1 : 0;
            Due.is("hopes with " + s, x.hopes(0, 1, s), due);
            Due.is("the others", x.hopes(1, 1, s), s - due);
        }
        Due.is("behind none", x.hopes(0, 0, 20), 0);
        Due.is("behind none", x.hopes(1, 0, 20), 20);
        int behind100 = 0;
        for (int s = 0; s < 20; s++) {
            int a = 0;
            for (int d = 0; d < 100; d++) {
                a = Due.lot(9990 + s, 8 * d) < 50 ? 1 - a : a;
            }
            behind100 += a;
        }
        Due.is("behind 100", x.hopes(0, 100, 20), behind100);
        TrueInk one = Due.told("fact a 1 0; slips 1; seed 111; page p all a=1;");
        // Of seed 111 and the 19 behind it just 111 and 126 have lot 0.
        Due.is("one slip in a hundred", one.hopes(0, 1, 1), 1);
        Due.is("the 15 first", one.hopes(0, 1, 15), 1);
        Due.is("the 16 first", one.hopes(0, 1, 16), 2);
        Due.is("all 20", one.hopes(0, 1, 20), 2);
        Due.is("no slips, all", Due.told("page p all day=100;").hopes(0, 100, 20), 20);
        Due.is("no slips, none", Due.told("page p all day=100;").hopes(0, 99, 20), 0);
        TrueInk y = Due.told("page p all day=100;");
        y.days(1);
        Due.is("from now on", y.hopes(0, 99, 7), 7);
    }

    private static void seenAndKnown() {
        Doc.terms(4, "SEEN: what SHADE a PAGE had behind n DAYS (0 .. 30) of the text, nothing by hand, 20 at most, "
                + "numbered from 0 on; KNOWN by k: the first k.");
        TrueInk x = Due.told("fact a 3 0; page p all a=day-27; page q all a=0;");
        for (int i = 0; i < 20; i++) {
            Due.is("see " + i, x.see(1, 30, 0), i);
        }
        Due.is("the 21st", x.see(0, 0, 0), -1);
        Due.is("20 known", x.fits(20, -1), 3);
        Due.is("none known", x.fits(0, -1), 4);
        x.forget();
        Due.is("numbered from 0 on again", x.see(0, 30, 4), 0);
        Due.is("behind 30", x.fits(1, 0), 3);
        Due.is("behind 27", x.see(0, 27, 4), 1);
        Due.is("the first alone", x.fits(1, -1), 1);
        Due.is("both", x.fits(2, -1), 0);
        x.forget();
        x.set(0, 3);
        x.wipe(1, true);
        x.days(2);
        x.see(1, 0, 4);
        Due.is("nothing by hand", x.fits(1, 0), 0);
        Due.is("the text's beginning", x.fits(1, -1), 1);
    }

    private static void worldsThatFit() {
        Doc.terms(4, "FITS: WORLDS in which FACTS may have been in the beginning (all else as the text) so that all that is KNOWN is so: how many; which, the least first;");
        TrueInk x = Due.told("fact a 3 0; fact b 1 1; page p all a<2; page q all a=1; page r all a+b=0; goes a = if a<3 then a+1 else 0;");
        x.see(0, 0, 4);
        x.see(1, 1, 4);
        x.see(2, 0, 4);
        x.see(2, 0, 0);
        Due.is("all", x.fits(0, -1), 8);
        Due.is("four", x.fits(1, -1), 4);
        int[] due = {0, 1, 4, 5};
        for (int i = 0; i < 4; i++) {
            Due.is("the least first", x.fits(1, i), due[i]);
        }
        Due.is("two", x.fits(2, -1), 2);
        Due.is("one", x.fits(3, -1), 1);
        Due.is("which", x.fits(3, 0), 0);
        Due.is("none", x.fits(4, -1), 0);
        Doc.terms(4, "SURE: FACTS that are the same in all of them.");
        Due.is("none is", x.sure(0), 0);
        Due.is("none is", x.sure(1), 0);
        Due.is("a is", x.sure(2), 1);
        Due.is("all are", x.sure(3), 3);
        Due.is("none fits", x.sure(4), 0);
        TrueInk s = Due.told("fact a 1 0; slips 50; seed 111; page p all a=1;");
        s.see(0, 1, 4);
        // The lot of seed 111 is 0 on day 0: it slips, whatever it was.
        Due.is("all else as the text", s.fits(1, 0), 0);
        Due.is("all else as the text", s.fits(1, -1), 1);
    }

    /** From day to day it goes as it would have gone: shades as they were, slips and the day count. */
    private static void fitsBehindDays() {
        TrueInk h = Due.told("fact a 1 0; goes a = 0; page h some this=4 and a=1; page p all day=5;");
        fitsAlone(h, 0, 30, 4, 1);
        fitsAlone(h, 0, 2, 0, 0);
        TrueInk g = Due.told("fact a 3 0; goes a = if 0<p then 0 else a+1; page p all a=3;");
        TrueInk b = Due.told("fact a 1 0; fact b 1 0; goes a = 0; goes b = h/4; page h some this=4 and a=1; page q all b=1;");
        for (int n = 0; n <= 30; n++) {
            fitsAlone(g, 0, n, 4, (35 - n) % 4);
            b.forget();
            b.see(1, n, 4);
            Due.is("two fit", b.fits(1, -1), 2);
            Due.is("b was 1, then a", b.fits(1, 0), n == 0 ? 2 : 1);
            Due.is("b was 1, then a", b.fits(1, 1), 3);
        }
        TrueInk d = Due.told("page p all day=5; page q all 1=1;");
        for (int n = 0; n <= 30; n++) {
            fitsAlone(d, 0, n, n == 5 ? 4 : 0, 0);
        }
        TrueInk l = Due.told("fact a 3 0; goes a = if 4<day then 3 else a; page p all a=3;");
        fitsAlone(l, 0, 5, 4, 3);
        l.see(0, 6, 4);
        Due.is("all of them", l.fits(1, -1), 4);
    }

    /** Just this world fits, by what was seen now and nothing else. */
    private static void fitsAlone(TrueInk x, int page, int n, int shade, int world) {
        x.forget();
        x.see(page, n, shade);
        Due.is("one fits behind " + n, x.fits(1, -1), 1);
        Due.is("which, behind " + n, x.fits(1, 0), world);
        x.forget();
    }

    private static void fitsBySlips() {
        TrueInk x = Due.told("fact a 3 0; fact b 1 0; slips 50; seed 77; page p part a>0 and a>1 and a>2 and 1=0; page q all b=1;");
        int[] a = {0, 1, 2, 3};
        int b = 0;
        for (int n = 1; n <= 30; n++) {
            for (int i = 0; i < 4; i++) {
                a[i] = Due.lot(77, 8 * (n - 1)) < 50 ? (a[i] + 1) % 4 : a[i];
            }
            b = Due.lot(77, 8 * (n - 1) + 1) < 50 ? 1 - b : b;
            x.forget();
            x.see(0, n, a[2]);
            x.see(1, n, 4 * b);
            Due.is("behind " + n, x.fits(2, -1), 1);
            Due.is("a was 2, b was 0", x.fits(2, 0), 2);
        }
        // The lot of seed 125 is 0 on day 2, and on no other one of these.
        TrueInk y = Due.told("fact a 1 0; slips 1; seed 125; page p all a=1;");
        for (int n = 0; n <= 30; n++) {
            fitsAlone(y, 0, n, 4, n < 3 ? 1 : 0);
        }
    }

    private static void fitsOfMany() {
        TrueInk x = Due.told("fact a 2 0;fact b 2 0;fact c 2 0;fact d 2 0;fact e 2 0;fact f 1 0;fact g 1 0;fact h 1 0; "
                + "goes a = b; goes b = c; goes c = a;"
                + "page p part a>0 and a>1 and b>0 and b>1; page q part c>0 and c>1 and d>0 and d>1; page r part e>0 and "
                + "e>1 and f>0 and g>0;"
                + "page s all h=1; page t some this=4 and f=1; page u all this=0 and p>3;");
        // Behind 30 days a, b and c have come round ten times.
        for (int n : new int[] {0, 3, 30}) {
            x.forget();
            x.see(0, n, 4);
            x.see(1, n, 4);
            x.see(2, n, 4);
            x.see(3, n, 4);
            x.see(4, n, 4);
            Due.is("the last world alone", x.fits(5, -1), 1);
            Due.is("which", x.fits(5, 0), 1943);
            Due.is("by less", x.fits(4, -1), 1);
            Due.is("by three", x.fits(3, -1), 2);
            Due.is("by two", x.fits(2, -1), 24);
        }
        TrueInk six = Due.told("fact a 1 0; page p all 1=1; page q all 1=1; page r all 1=1; page s all 1=1; page t all 1=1; "
                + "page u part 1=1 and a=1;");
        six.see(0, 30, 4);
        six.see(5, 30, 4);
        six.see(5, 29, 2);
        Due.is("all black", six.fits(2, 0), 1);
        Due.is("all black", six.fits(2, -1), 1);
        Due.is("not half", six.fits(3, -1), 0);
        Due.is("no twins", six.twins(30, 0), -2);
        Due.is("the sixth page parts them", six.fewest(30, 1), 32);
        Due.is("ahead", six.shade(5, 300), 2);
        six.set(0, 1);
        Due.is("ahead", six.shade(5, 300), 4);
        Due.is("the last number", six.stands(0), 15624);
        TrueInk last = Due.told("fact a 1 1; page p all a=0; page q all a=0; page r all a=0; page s all a=0; page t all a=0; "
                + "page u all a=1;");
        Due.is("the sixth page alone is black", last.shade(5, 1), 4);
        Due.is("in one world", last.blackIn(5), 1);
        last.see(5, 1, 4);
        Due.is("which", last.fits(1, 0), 1);
    }

    private static void tellingMost() {
        Doc.terms(4, "NEXT by k, n: the PAGE whose SHADE behind n DAYS tells most: "
                + "by which the most of FITS that have one SHADE of it are fewest; of alike ones the first.");
        TrueInk x = Due.told("fact a 3 0; page o all 1=1; page p all a=0; page q all a<2; page r all a>1; page s part a>0 and "
                + "a>1 and a>2; page t part a>0 and a>1 and a>2;"
                + "goes a = a/2;");
        Due.is("parts all", x.next(0, 0, 0), 4);
        Due.is("the most are", x.next(0, 0, 1), 1);
        // Behind a day a is 0, 0, 1, 1: p and s part them alike, q does not any more.
        Due.is("the first of alike ones", x.next(0, 1, 0), 1);
        Due.is("the most are", x.next(0, 1, 1), 2);
        // Behind two days all are 0.
        Due.is("none tells anything: the first", x.next(0, 30, 0), 0);
        Due.is("the most are", x.next(0, 30, 1), 4);
        x.see(2, 0, 4);
        Due.is("of what fits", x.next(1, 0, 0), 1);
        Due.is("the most are", x.next(1, 0, 1), 1);
        x.see(1, 0, 4);
        Due.is("one fits: the first", x.next(2, 0, 0), 0);
        Due.is("the most are", x.next(2, 0, 1), 1);
    }

    private static void fewestThatTell() {
        Doc.terms(4, "FEWEST by n: a set of PAGES, the SHADES of which behind n DAYS, together, "
                + "are unlike for any two WORLDS in the beginning: "
                + "the fewest; of alike ones the least bits.");
        fewest("page p all 1=1;", 0, 0, 0);
        fewest("fact a 1 0; page p all 1=1; page q all a=1; page r all a=0;", 0, 1, 2);
        fewest("fact a 3 0; page p all a<2; page q all a=1; page r all a=0; page s all a=3;", 0, 3, 1 + 2 + 8);
        fewest("fact a 3 0; page p all a<2; page q some a=1 and a=3; page r part a>0 and a>1 and a>2;", 0, 1, 4);
        fewest("fact a 3 0; page p all a<2; page q some a=1 and a=3; page r some a=0 and a=2;", 0, 2, 3);
        fewest("fact a 3 0; page p all a<2; page q all a=0;", 0, -2, -2);
        fewest("fact a 1 0; page p all a=1 and day=30;", 29, -2, -2);
        fewest("fact a 1 0; page p all a=1 and day=30;", 30, 1, 1);
        fewest("fact a 1 0;", 30, -2, -2);
        fewest("fact a 1 0; fact b 1 0; fact c 1 0; fact d 1 0; fact e 1 0; fact f 1 0; page p all a=1; page q all b=1; "
                + "page r all c=1; page s all d=1;"
                + "page t all e=1; page u all f=1;", 0, 6, 63);
    }

    private static void fewest(String text, int n, int many, int bits) {
        TrueInk x = Due.told(text);
        Due.is("how many: " + text, x.fewest(n, 0), many);
        Due.is("which: " + text, x.fewest(n, 1), bits);
    }
}
