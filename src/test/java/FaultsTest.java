import java.util.Arrays;
import java.util.List;

/** Which texts there are, and which have which fault, and where. A ^ marks the fault's place and is not fed. */
public final class FaultsTest {
    private static final List<String> WORDS = Arrays.asList("fact", "mine", "yours", "goes", "page", "all", "some", "part",
            "and", "slips", "seed", "if", "then", "else", "this", "day");
    private static final String SIGNS = ";=+-*/<>()";

    public static void main(String[] args) {
        bytesMost();
        blanks();
        names();
        ints();
        signs();
        anyByte();
        longestTokens();
        tells();
        claimsAndLaws();
        expressions();
        syntax();
        factsMost();
        pagesMost();
        numberedAsTheyStand();
        goesTold();
        waysMost();
        slipsAndSeed();
        firstByItsPlace();
        tokensMost();
        claimsMost();
        ifsMost();
        nestedMost();
        toldTwice();
        goesOfNone();
        wrongNumbers();
        thisInLaws();
        many();
        unknown();
        faultChangesNothing();
        readBehindAFault();
        readBeginsAnew();
        textAfterText();
        Doc.allTermsNamed(1, 1);
        Due.end();
    }

    private static void fault(int number, String marked) {
        Due.fault(number, marked);
    }

    private static void good(String text) {
        Due.good(text);
    }

    private static String nested(int deep, String inside) {
        return Due.times(deep, "(") + inside + Due.times(deep, ")");
    }

    private static String facts(int n) {
        StringBuilder b = new StringBuilder();
        for (int i = 0; i < n; i++) {
            b.append("fact a").append((char) ('a' + i)).append(" 1 0;");
        }
        return b.toString();
    }

    private static String pages(int n) {
        StringBuilder b = new StringBuilder();
        for (int i = 0; i < n; i++) {
            b.append("page p").append((char) ('a' + i)).append(" all 1=1;");
        }
        return b.toString();
    }

    private static void bytesMost() {
        Doc.terms(1, "A TEXT has 2,000 bytes at most.");
        String end = "fact a 3 2;";
        TrueInk x = Due.told(Due.times(2000 - end.length(), " ") + end);
        Due.is("the last of 2,000 bytes counts", x.fact(0), 2);
        fault(1, Due.times(1999, " ") + "^x");
        fault(1, Due.times(1991, " ") + "fact a 3 ^");
        fault(1, Due.times(1994, " ") + "seed 1^");
        TrueInk y = new TrueInk();
        Due.feed(y, Due.times(2000, " "));
        Due.is("no 2,001st", y.feed(0x20202020, 0x20202020, 0x20202020, 0x20202020, 0x20202020), -1);
        Due.is("2,000 are there", y.count(7), 2000);
        Due.is("read", y.read(), 0);
    }

    private static void blanks() {
        Doc.terms(1, "TOKENS, the longest that can be, with blanks (9, 10, 13, 32) between or not:");
        for (int b = 0; b < 256; b++) {
            if (b == 9 || b == 10 || b == 13 || b == 32) {
                good("seed" + (char) b + "1" + (char) b + (char) b + ";" + (char) b + "seed 2;");
            } else {
                fault(1, "seed 1;^" + (char) b + "seed 2;");
            }
        }
        good(" \t\r\n ");
        good("fact a1 0mine;fact b3 3yours;page p all(a+b)*2<this-day and a=b;goes a=if a<b then 1else 2;slips 1;seed 1;");
        fault(1, "fact a 1 0^\u000bmine;");
    }

    private static void names() {
        Doc.terms(1, "NAMES (letters a .. z, 8 at most, none of the words in quotes),");
        for (char c = 'a'; c <= 'z'; c++) {
            good("fact " + c + " 1 0;");
            good("page " + Due.times(8, "" + c) + " all 1=1;");
        }
        fault(1, "fact ^A 1 0;");
        fault(1, "fact ^Z 1 0;");
        fault(1, "fact ^` 1 0;");
        fault(1, "fact ^{ 1 0;");
        fault(1, "fact ^_ 1 0;");
        fault(1, "fact a^B 1 0;");
        good("fact abcdefgh 1 0;");
        fault(1, "fact ^abcdefghi 1 0;");
        fault(1, "fact ^" + Due.times(40, "a") + " 1 0;");
        good("fact abcdefgh 1 0; fact abcdefgi 1 0; fact bbcdefgh 1 0; fact a 1 0; fact aa 1 0;");
        for (String word : WORDS) {
            fault(1, "fact ^" + word + " 1 0;");
            fault(1, "goes ^" + word + " = 1;");
            fault(1, "page ^" + word + " all 1=1;");
            good("fact " + word + "x 1 0; fact x" + word + " 1 0;");
            good("fact " + word.substring(1) + " 1 0;");
        }
        good("fact thisday 1 0; page p all thisday=0;");
        for (char c = 'a'; c < 'z'; c++) {
            for (char d = (char) (c + 1); d <= 'z'; d++) {
                good("fact " + c + "x 1 0; fact " + d + "x 1 0; fact xy" + c + " 1 0; fact xy" + d + " 1 0;");
            }
        }
    }

    private static void anyByte() {
        for (int b = 0; b < 256; b++) {
            char c = (char) b;
            boolean blank = b == 9 || b == 10 || b == 13 || b == 32;
            boolean letter = c >= 'a' && c <= 'z';
            boolean digit = c >= '0' && c <= '9';
            if (letter) {
                good("fact " + c + " 1 0;");
            } else {
                fault(1, blank ? "fact " + c + " ^1 0;" : "fact ^" + c + " 1 0;");
            }
            if (digit) {
                good("seed " + c + ";");
            } else {
                fault(1, blank ? "seed " + c + "^;" : "seed ^" + c + ";");
            }
        }
    }

    private static void ints() {
        Doc.terms(1, "INTS (1 to 4 digits),");
        for (int n = 0; n <= 9; n++) {
            good("seed " + n + ";seed " + n + n + ";seed " + n + n + n + ";seed " + n + n + n + n + ";");
            fault(1, "seed ^" + n + n + n + n + n + ";");
        }
        good("seed 9999;");
        fault(1, "seed ^10000;");
        fault(1, "seed ^00001;");
        fault(1, "seed ^;");
        fault(1, "seed 1^:;");
        Due.is("zeros ahead", Due.told("page p all 0010=10 and 9999=9998+1;").page(0, 0), 4);
    }

    private static void signs() {
        Doc.terms(1, "SIGNS ; = + - * / < > ( ) .");
        for (int b = 0; b < 256; b++) {
            char c = (char) b;
            if ("+-*/0123456789".indexOf(c) >= 0) {
                good("page p all 1" + c + "1=1;");
            } else if ("<=>".indexOf(c) >= 0) {
                fault(1, "page p all 1" + c + "1^=1;");
            } else if (c == 9 || c == 10 || c == 13 || c == 32) {
                fault(1, "page p all 1" + c + "^1=1;");
            } else {
                fault(1, "page p all 1^" + c + "1=1;");
            }
        }
    }

    private static void longestTokens() {
        Doc.terms(1, "A longer one, all else, is no TOKEN.");
        fault(1, "seed ^12345;");
        fault(1, "page p all ^123456789=1;");
        fault(1, "page p all ^abcdefghi=1;");
        fault(1, "page p ^allallall 1=1;");
        fault(1, "^factfactf");
        fault(1, "fact a10^;");
        fault(1, "fact a1^;");
        fault(1, "^.");
        fault(1, "^\u0000");
        fault(1, "^\u00ff");
        fault(1, "^#");
        fault(1, "fact a 1 0;^\"");
    }

    /** Behind what stands there, these tokens go on, and no other one; the text's end does if it is told. */
    private static void goesOn(String ahead, boolean ends, String... tokens) {
        List<String> fine = Arrays.asList(tokens);
        String text = ahead.isEmpty() ? "" : ahead + " ";
        for (String word : WORDS) {
            goesOnWith(text, word, fine.contains(word));
        }
        for (int i = 0; i < SIGNS.length(); i++) {
            goesOnWith(text, SIGNS.substring(i, i + 1), fine.contains(SIGNS.substring(i, i + 1)));
        }
        goesOnWith(text, "zz", fine.contains("NAME"));
        goesOnWith(text, "1", fine.contains("INT"));
        goesOnWith(text, "!", false);
        goesOnWith(text, "abcdefghi", false);
        goesOnWith(text, "12345", false);
        TrueInk x = new TrueInk();
        int fault = Due.read(x, text);
        Due.is("ends: " + text, fault != 1, ends);
        Due.is("place of the end: " + text, !ends && x.place() != text.length(), false);
    }

    private static void goesOnWith(String text, String token, boolean due) {
        TrueInk x = new TrueInk();
        int fault = Due.read(x, text + token);
        boolean stops = fault == 1 && x.place() == text.length();
        Due.is("goes on: " + text + token, !stops, due);
    }

    private static void tells() {
        Doc.terms(1, "text: {TELL}.");
        good("");
        good(" ");
        String[] tell = {"fact", "goes", "page", "slips", "seed"};
        goesOn("", true, tell);
        Doc.terms(1, "TELL: 'fact' NAME INT INT ['mine' | 'yours'] ';' |");
        goesOn("fact", false, "NAME");
        goesOn("fact a", false, "INT");
        goesOn("fact a 1", false, "INT");
        goesOn("fact a 1 0", false, "mine", "yours", ";");
        goesOn("fact a 1 0 mine", false, ";");
        goesOn("fact a 1 0 yours", false, ";");
        goesOn("fact a 1 0 ;", true, tell);
        goesOn("fact a 1 0 mine;", true, tell);
        Doc.terms(1, "'goes' NAME LAW ';' |");
        goesOn("goes", false, "NAME");
        goesOn("goes a", false, "=");
        goesOn("goes a = 1;", true, tell);
        Doc.terms(1, "'page' NAME ('all' | 'some' | 'part') CLAIM {'and' CLAIM} ';' |");
        goesOn("page", false, "NAME");
        goesOn("page p", false, "all", "some", "part");
        goesOn("page p all 1=1;", true, tell);
        goesOn("page p some 1=1 and 2=2;", true, tell);
        Doc.terms(1, "'slips' INT ';' | 'seed' INT ';'.");
        goesOn("slips", false, "INT");
        goesOn("slips 1", false, ";");
        goesOn("slips 1;", true, tell);
        goesOn("seed", false, "INT");
        goesOn("seed 1", false, ";");
        goesOn("seed 1;", true, tell);
    }

    private static void claimsAndLaws() {
        Doc.terms(1, "CLAIM: E ('<' | '=' | '>') E.");
        String[] unit = {"INT", "NAME", "this", "day", "("};
        for (String how : new String[] {"all", "some", "part"}) {
            goesOn("page p " + how, false, unit);
        }
        goesOn("page p all 1", false, "+", "-", "*", "/", "<", "=", ">");
        for (String sign : new String[] {"<", "=", ">"}) {
            goesOn("page p all 1 " + sign, false, unit);
            goesOn("page p all 1 " + sign + " 1", false, "+", "-", "*", "/", "and", ";");
        }
        goesOn("page p all 1=1 and", false, unit);
        goesOn("page p all 1=1 and 2", false, "+", "-", "*", "/", "<", "=", ">");
        goesOn("page p all 1=1 and 2=2", false, "+", "-", "*", "/", "and", ";");
        Doc.terms(1, "LAW: '=' {'if' E '<' E 'then' E 'else'} E.");
        String[] unitOrIf = {"INT", "NAME", "this", "day", "(", "if"};
        goesOn("goes a =", false, unitOrIf);
        goesOn("goes a = if", false, unit);
        goesOn("goes a = if 1", false, "+", "-", "*", "/", "<");
        goesOn("goes a = if 1 <", false, unit);
        goesOn("goes a = if 1 < 2", false, "+", "-", "*", "/", "then");
        goesOn("goes a = if 1 < 2 then", false, unit);
        goesOn("goes a = if 1 < 2 then 1", false, "+", "-", "*", "/", "else");
        goesOn("goes a = if 1 < 2 then 1 else", false, unitOrIf);
        goesOn("goes a = if 1 < 2 then 1 else 1", false, "+", "-", "*", "/", ";");
        goesOn("goes a = if 1 < 2 then 1 else if 1", false, "+", "-", "*", "/", "<");
        goesOn("goes a = 1", false, "+", "-", "*", "/", ";");
    }

    private static void expressions() {
        Doc.terms(1, "E: PART {('+' | '-') PART}.");
        Doc.terms(1, "PART: UNIT {('*' | '/') UNIT}.");
        String[] unit = {"INT", "NAME", "this", "day", "("};
        for (String sign : new String[] {"+", "-", "*", "/"}) {
            goesOn("page p all 1 " + sign, false, unit);
            goesOn("page p all 1 " + sign + " 1", false, "+", "-", "*", "/", "<", "=", ">");
            goesOn("goes a = 1 + 2 * 3 " + sign, false, unit);
        }
        Doc.terms(1, "UNIT: INT | VAR | '(' E ')'.");
        goesOn("page p all (", false, unit);
        goesOn("page p all ( 1", false, "+", "-", "*", "/", ")");
        goesOn("page p all ( 1 )", false, "+", "-", "*", "/", "<", "=", ">");
        goesOn("page p all ( ( 1 )", false, "+", "-", "*", "/", ")");
        goesOn("page p all 1 = ( 1", false, "+", "-", "*", "/", ")");
        goesOn("page p all 1 = ( 1 )", false, "+", "-", "*", "/", "and", ";");
        goesOn("goes a = ( 1", false, "+", "-", "*", "/", ")");
        goesOn("goes a = ( 1 )", false, "+", "-", "*", "/", ";");
        goesOn("goes a = if ( 1", false, "+", "-", "*", "/", ")");
        goesOn("goes a = if 1 < ( 1", false, "+", "-", "*", "/", ")");
        goesOn("goes a = if 1 < 1 then ( 1", false, "+", "-", "*", "/", ")");
        Doc.terms(1, "VAR: NAME | 'this' | 'day'.");
        for (String var : new String[] {"zz", "this", "day"}) {
            goesOn("page p all " + var, false, "+", "-", "*", "/", "<", "=", ">");
            goesOn("goes a = " + var, false, "+", "-", "*", "/", ";");
        }
    }

    private static void syntax() {
        Doc.terms(1, "1 SYNTAX: a TOKEN, or what is none, with which no text goes on.");
        fault(1, "^x");
        fault(1, "^7");
        fault(1, "^Fact a 1 0;");
        fault(1, "^facta 1 0;");
        fault(1, "fact a 1 0^");
        fault(1, "fact a 1 0  ^");
        fault(1, "fact a 1 0 mine ^yours;");
        fault(1, "fact a 1 ^-1;");
        fault(1, "fact a 1 0;^;");
        fault(1, "goes a = 1 ^<2;");
        fault(1, "goes a = if 1 ^=2 then 1 else 0;");
        fault(1, "goes a = if 1<2 then ^if 1<2 then 1 else 0;");
        fault(1, "goes a = 1 ^if 1<2 then 1 else 2;");
        fault(1, "goes a = (^if 1<2 then 1 else 2);");
        fault(1, "page p all 1<2^<3;");
        fault(1, "page p all 1<^=3;");
        fault(1, "page p all ^-1<0;");
        fault(1, "page p all (1^<2);");
        fault(1, "page p all 1^)=1;");
        fault(1, "page p all (^)=1;");
        fault(1, "page p all (1^=1;");
        fault(1, "page p all 1=1 and^");
        fault(1, "page p all 1=^then;");
    }

    private static void factsMost() {
        Doc.terms(1, "FACTS, 8 at most (a NAME, the MOST it can be 1 .. 3, what it is in the beginning 0 .. 3, "
                + "no more than that; whose it is),");
        Due.is("eight facts", Due.told(facts(8)).count(0), 8);
        for (int most = 1; most <= 3; most++) {
            for (int first = 0; first <= most; first++) {
                Due.is("in the beginning", Due.told("fact a " + most + " " + first + ";").fact(0), first);
            }
            fault(5, "fact a " + most + " ^" + (most + 1) + ";");
        }
        fault(5, "fact a ^0 0;");
        fault(5, "fact a ^4 0;");
        TrueInk x = Due.told("fact a 1 0 mine; fact b 1 0 yours; fact c 1 0;");
        Due.is("mine", x.count(11), 1);
        Due.is("yours", x.count(12), 2);
        Doc.terms(1, "a 9th fact, a 7th page (at its first TOKEN);");
        fault(2, facts(8) + " ^fact b 1 0;");
        fault(2, facts(8) + " ^fact aa 9 9;");
        fault(2, facts(8) + " ^fact");
        fault(2, pages(6) + facts(8) + "seed 1;^fact b 1 0;");
    }

    private static void pagesMost() {
        Doc.terms(1, "PAGES, 6 at most (a NAME, how it is shaded, CLAIMS, 6 at most),");
        TrueInk x = Due.told("page a all 1=1 and 1=0; page b some 1=1 and 1=0; page c part 1=1 and 1=0;" + pages(3));
        Due.is("six pages", x.count(1), 6);
        Due.is("all", x.page(0, 0), 0);
        Due.is("some", x.page(1, 0), 4);
        Due.is("part", x.page(2, 0), 2);
        good(facts(8) + pages(6));
        fault(2, pages(6) + " ^page b all 1=1;");
        fault(2, pages(6) + " ^page pa");
        fault(2, pages(6) + facts(8) + "^page ;");
    }

    private static void numberedAsTheyStand() {
        Doc.terms(1, "numbered each from 0 on as they stand.");
        TrueInk x = Due.told("page p all 1=1; fact b 3 2; page q all 1=0; fact a 3 1; page c some b=2 and 1=1;");
        Due.is("facts", x.count(0), 2);
        Due.is("the first fact", x.fact(0), 2);
        Due.is("the second fact", x.fact(1), 1);
        Due.is("the first page", x.page(0, 0), 4);
        Due.is("the second page", x.page(1, 0), 0);
        Due.is("the third page", x.page(2, 3), 2);
    }

    private static void goesTold() {
        Doc.terms(1, "GOES of a FACT (it stays as it is, if not told; the last one).");
        TrueInk x = Due.told("fact a 3 1; fact b 3 2; goes a = 0; goes a = 2; goes a = a+2;");
        x.days(1);
        Due.is("the last one", x.fact(0), 3);
        Due.is("stays", x.fact(1), 2);
    }

    private static void waysMost() {
        Doc.terms(1, "All ways in which FACTS can be, together, are 2,000 at most.");
        String five = "fact a 2 2;fact b 2 2;fact c 2 2;fact d 2 2;fact e 2 2;";
        TrueInk x = Due.told(five + "fact f 1 1;fact g 1 1;fact h 1 1;page p all a+b+c+d+e+f+g+h=13;");
        // No product of 2, 3 and 4 lies between this one and 2,000.
        Due.is("worlds", x.world(1), 1944);
        Due.is("the last one", x.world(0), 1943);
        Due.is("black in", x.blackIn(0), 1);
        fault(7, five + "fact f 1 1;fact g 1 1;fact h ^2 1;");
    }

    private static void slipsAndSeed() {
        Doc.terms(1, "SLIPS 0 .. 100 (0), SEED 0 .. 9999 (0): the last one.");
        Due.is("none told", Due.told("fact a 1 0;").count(3), 0);
        Due.is("0", Due.told("slips 0;").count(3), 0);
        Due.is("100", Due.told("slips 100;").count(3), 100);
        Due.is("the last one", Due.told("slips 100; slips 7; seed 1;").count(3), 7);
        Due.is("the last one is 0", Due.told("slips 100; slips 0;").count(3), 0);
        fault(5, "slips ^101;");
        fault(5, "slips ^101; slips 1;");
        good("seed 0; seed 9999;");
        int[] seeds = {0, 1, 9999};
        String[] told = {"", "seed 0; seed 1;", "seed 1; seed 9999;"};
        for (int i = 0; i < 3; i++) {
            TrueInk x = Due.told("fact a 3 0; slips 50; " + told[i]);
            int a = 0;
            for (int d = 0; d < 40; d++) {
                a = Due.lot(seeds[i], 8 * d) < 50 ? (a + 1) % 4 : a;
                x.days(1);
                Due.is("seed " + seeds[i] + " on day " + d, x.fact(0), a);
            }
        }
    }

    private static void firstByItsPlace() {
        Doc.terms(1, "FAULTS of a text, the first by its place (a byte; the text's end: its length), of one place the least:");
        fault(1, "seed 1^");
        fault(1, "seed 1; seed 1 \t^");
        fault(1, "^; " + pages(7));
        fault(2, pages(6) + "^page q all ; !");
        fault(1, pages(6) + "^! page q all 1=1;");
        fault(1, "page p all ((((((^! ((((((( 1");
        fault(1, "page p all 1=1 and 2=2 and 3=3 and 4=4 and 5=5 and 6=^and 7=7;");
        Doc.terms(1, "If there is none, likewise:");
        fault(1, "fact a 9 0; fact a 1 0; page p all x=1; ^x");
        fault(2, "fact a 9 0; goes x = this; page p all ((((((^(1)))))))=1;");
        fault(3, "fact a 1 0; fact ^a 9 9; slips 101;");
        fault(5, "slips ^101; fact a 1 0; fact a 1 0;");
        fault(4, "goes ^x = this; slips 101;");
        fault(6, "fact a 1 0; goes a = ^this; goes x = 1; fact a 1 0;");
        String five = "fact a 3 0;fact b 3 0;fact c 3 0;fact d 3 0;fact e 3 0;";
        // More than can be and too many at one place: the least number.
        fault(5, five + "fact f ^4 0;");
        fault(5, five + "fact f ^0 0;");
        fault(7, five + "fact f ^1 2;");
        fault(3, five + "fact ^a 4 4;");
    }

    private static void tokensMost() {
        Doc.terms(1, "2 ROOM: a 401st TOKEN;");
        String most = "fact a 1 0; fact b 1 0; " + Due.times(130, "seed 1;");
        good(most);
        fault(2, most + "^seed 1;");
        fault(2, most + " ^slips 101;");
        fault(1, most + " ^1");
        fault(1, most + "^#");
        fault(1, most + "^abcdefghi");
        String ahead = "fact a 1 0; " + Due.times(131, "seed 1;");
        fault(2, ahead + "seed 1^;");
        fault(2, ahead + "seed 1 ^; #");
        fault(1, ahead + "seed 1 ^seed");
        fault(1, ahead + "seed 1^");
        Due.is("400 tokens", Due.told("seed 1;" + sum(195) + "=196;").page(0, 0), 4);
        fault(2, sum(197) + "=198^;");
        fault(2, sum(197) + "=198 ^and 1=1;");
        fault(2, sum(198) + "^=1;");
        fault(1, sum(198) + "^");
        fault(1, sum(198) + "^;");
        fault(2, "seed 1;" + sum(196) + "+^1=1;");
        fault(2, "seed 1;" + sum(196) + "+^(1)=1;");
        fault(2, "seed 1;" + sum(196) + "+^this=1;");
        fault(2, "seed 1; fact a 1 0; goes a = if 1<1" + Due.times(191, "+1") + " then 1 else ^if 1<1 then 1 else 1;");
        fault(2, "seed 1; fact a 1 0; goes a = if 1<1" + Due.times(191, "+1") + " then 1 else ^this;");
    }

    /** A page's first 4 tokens and two for each 1 more. */
    private static String sum(int more) {
        return "page p all 1" + Due.times(more, "+1");
    }

    private static void claimsMost() {
        Doc.terms(1, "a 7th CLAIM of a page (at its 'and');");
        String six = "1=1 and 2=2 and 3=3 and 4=4 and 5=5 and 6=6";
        for (String how : new String[] {"all", "some", "part"}) {
            Due.is("six claims", Due.told("page p " + how + " " + six + ";").page(0, 3), 6);
            fault(2, "page p " + how + " " + six + " ^and 7=7;");
        }
        fault(2, "page p all " + six + " ^and");
        fault(2, "page p all " + six + " ^and ;");
        good("page p all " + six + "; page q all " + six + ";");
    }

    private static void ifsMost() {
        Doc.terms(1, "a 5th if of a LAW (at it);");
        String four = "if 1<1 then 1 else if 1<1 then 1 else if 1<1 then 1 else if a<1 then 1 else ";
        TrueInk x = Due.told("fact a 1 0; goes a = " + four + "0; goes a = " + four + "0;");
        x.days(1);
        Due.is("the fourth if", x.fact(0), 1);
        fault(2, "fact a 1 0; goes a = " + four + "^if 1<1 then 1 else 0;");
        fault(2, "goes a = " + four + "^if");
        fault(1, "goes a = " + four + "^;");
    }

    private static void nestedMost() {
        Doc.terms(1, "a 7th ( within one another (at it).");
        Due.is("six", Due.told("page p all " + nested(6, "1") + "+1=" + nested(6, "2") + ";").page(0, 0), 4);
        Due.is("six, each with a sum and a product waiting",
                Due.told("page p all 1+2*(1+2*(1+2*(1+2*(1+2*(1+2*(1+2*1))))))=255;").page(0, 0), 4);
        Due.is("side by side", Due.told("page p all (1)+(1)+(1)+(1)+(1)+(1)+(1)+(1)=8;").page(0, 0), 4);
        fault(2, "page p all ((((((^(1)))))))=1;");
        fault(2, "page p all 1=((((((^(1)))))));");
        fault(2, "page p all 1=((((1+((2*^(3)))))));");
        fault(2, "page p all ((((((1)))))+(((((^(1");
        fault(2, "goes a = ((((((^(");
        fault(2, "goes a = if ((((((^(1");
        fault(1, "page p all ((((((^<");
    }

    private static void toldTwice() {
        Doc.terms(1, "3 TWICE: a NAME told already (FACTS and PAGES together).");
        fault(3, "fact a 1 0; fact ^a 1 0;");
        fault(3, "fact a 1 0; page ^a all 1=1;");
        fault(3, "page p all 1=1; page ^p all 1=1;");
        fault(3, "page p all 1=1; fact ^p 1 0;");
        fault(3, facts(7) + pages(5) + "page ^ag all x=1;");
        good("fact a 1 0; goes a = 1; goes a = 0;");
    }

    private static void goesOfNone() {
        Doc.terms(1, "4 NAME: no such FACT told ahead (goes).");
        fault(4, "goes ^a = 1;");
        fault(4, "goes ^a = 1; fact a 1 0;");
        fault(4, "page p all 1=1; goes ^p = 1;");
        fault(4, "fact a 1 0; goes ^aa = this;");
        good("fact a 1 0; goes a = b; fact b 1 0;");
    }

    private static void wrongNumbers() {
        Doc.terms(1, "5 WRONG (at the INT): a number not as told above.");
        fault(5, "fact a ^0 0;");
        fault(5, "fact a ^0000 1;");
        fault(5, "fact a ^4 4;");
        fault(5, "fact a ^9999 0;");
        fault(5, "fact a 1 ^2;");
        fault(5, "fact a 2 ^3 mine;");
        fault(5, "fact a 3 ^4;");
        fault(5, "fact a 3 ^9999;");
        fault(5, "slips ^101;");
        fault(5, "slips ^9999; slips 1;");
        fault(5, "slips 100; slips ^101;");
        good("fact a 3 3; slips 100; seed 9999;");
    }

    private static void thisInLaws() {
        Doc.terms(1, "6 THIS: a 'this' in a LAW (at it).");
        fault(6, "fact a 1 0; goes a = ^this;");
        fault(6, "fact a 1 0; goes a = if ^this<1 then 1 else 0;");
        fault(6, "fact a 1 0; goes a = if 1<^this then 1 else 0;");
        fault(6, "fact a 1 0; goes a = if 1<1 then ^this else this;");
        fault(6, "fact a 1 0; goes a = if 1<1 then 1 else ^this;");
        fault(6, "page p all this=1; fact a 1 0; goes a = if 1<1 then 2*(1+^this) else this;");
        good("fact a 1 0; goes a = p; page p all this=this;");
    }

    private static void many() {
        Doc.terms(1, "7 MANY: (at its MOST) a FACT with which the ways are more than 2,000.");
        String five = "fact a 3 0;fact b 3 0;fact c 3 0;fact d 3 0;fact e 3 0;";
        Due.is("1,024 ways", Due.told(five).world(1), 1024);
        fault(7, five + "fact f ^1 0;");
        fault(7, five + "fact f ^3 3 mine;");
        fault(7, "fact a 2 0;fact b 2 0;fact c 2 0;fact d 2 0;fact e 2 0;fact f 2 0;fact g ^2 0;");
        fault(7, five + "fact f ^1 0; fact g 1 0;");
    }

    private static void unknown() {
        Doc.terms(1, "If there is none of all these: 8 UNKNOWN: the first NAME in an E that is no FACT and no PAGE of the text.");
        fault(8, "page p all ^x=1;");
        fault(8, "page p all p=1 and 1=q; page q all (1+^zz)=yy;");
        fault(8, "fact a 1 0; goes a = ^zz; goes a = 1;");
        fault(8, "fact a 1 0; goes a = if a<^zz then yy else xx;");
        fault(8, "fact a 1 0; goes a = if 1<2 then 1*2+^zz else xx;");
        good("page p all q=4; page q all 1=1;");
        good("fact a 1 0; goes a = p+b; page p all 1=1; fact b 1 0;");
        fault(5, "page p all x=1; fact a ^9 0;");
        fault(6, "page p all x=1; fact a 1 0; goes a = ^this+y;");
        fault(3, "page p all x=1; fact ^p 9 9;");
        fault(4, "page p all x=1; goes ^x = 1;");
        fault(7, "page p all x=1; fact a 3 0;fact b 3 0;fact c 3 0;fact d 3 0;fact e 3 0;fact f ^1 0;");
        fault(1, "page p all x=1; ^x");
    }

    private static final String[] ONE_OF_EACH = {"fact b 1 0", pages(7), "fact b 1 0; fact b 1 0;", "goes b = 1;", "slips 101;",
        "fact b 1 0; goes b = this;",
        "fact b 3 0;fact c 3 0;fact d 3 0;fact e 3 0;fact f 3 0;fact g 3 0;", "page q some x=1; fact b 1 0 yours;"};

    private static void faultChangesNothing() {
        Doc.terms(1, "A text with a FAULT changes nothing but the tape;");
        for (int number = 1; number <= 8; number++) {
            TrueInk x = Due.told("fact a 3 1 mine; page p all a=2; page l all this=0 and a=2; slips 3; seed 5; goes a = a;");
            x.days(3);
            x.set(0, x.fact(0) == 2 ? 1 : 2);
            x.wipe(0, true);
            x.see(0, 0, 0);
            x.hold(1);
            String ahead = Due.whole(x);
            Due.is("fault " + number, Due.read(x, ONE_OF_EACH[number - 1]), number);
            Due.same("behind fault " + number, Due.whole(x), ahead);
            Due.is("the tape is empty", x.count(7), 0);
            Due.is("worlds", x.world(1), 4);
            Due.is("a day", x.days(1), 4);
            Due.is("it is held", x.restore(1), true);
            Due.is("the day held", x.count(2), 3);
        }
    }

    /** A text that breaks off leaves nothing behind for the next one. */
    private static void readBehindAFault() {
        String[] broken = {"page p all 1+2*3-(4", "page p all 1+2*3-(4/(5-", "goes a = if 1<2 then 3*(4+", "fact a 1", "fact a 3 3 mine; goes a = 0; slips 9; seed 9; page",
            "page a all x=1; fact b 1 1; goes b = b;", "fact a 3 0; fact b 3 0; "
                    + "goes b = this;", Due.times(401, ";"), facts(8) + pages(7), "slips 101; slips 7; seed 8;"};
        String text = "fact a 3 1; page p all 1+2*3-(4-1)=4; page q part a=1 and this=0; goes a = if a<3 then (a+1)*1 else 0;";
        TrueInk fresh = Due.told(text);
        String goingOn = Due.goingOn(fresh);
        String asked = Due.asked(fresh);
        for (String b : broken) {
            TrueInk x = new TrueInk();
            Due.is("a fault: " + b, Due.read(x, b) != 0, true);
            Due.is("read behind " + b, Due.read(x, text), 0);
            Due.same("behind " + b, Due.goingOn(x), goingOn);
            Due.same("asked behind " + b, Due.asked(x), asked);
        }
    }

    private static final String[] WHOLE = {"", "fact a 3 1; page p all a=2;", Samples.ROUND, Samples.stepTo300(0),
        "fact a 3 0 mine; fact b 3 0 yours; goes a = 3-a; goes b = a; slips 50; seed 7; page p part q=0 and q=1 and a=2 and "
                + "b=3 and day>1; page q all p=0 and day>0;",
        "fact a 3 0; fact b 3 1; goes a = b; goes b = a; page p part a>0 and a>1 and a>2; page q all b=1 and q=0;",
        "fact a 3 0; fact b 3 1; goes a = a/2; page p part a>0 and a>1 and a>2; page q all b=1 and q=0;",
        "fact a 3 0; fact b 3 1; page p part a>0 and a>1 and a>2; page q all b=1 and day=2; slips 50;",
        "page a all 1=1; page b all 1=1; page c all 1=1; page d all 1=1; page e all 1=1; page f all this=0;",
        "fact a 2 0;fact b 2 0;fact c 2 0;fact d 2 0;fact e 2 0;fact f 1 0;fact g 1 0;fact h 1 0; page p part a>0 and b>0 and "
                + "c>0; page q all d=e and f=g;"};

    /** Whatever text was there, and whatever was asked about it, the next one goes on as with a new object. */
    private static void textAfterText() {
        for (int second = 0; second < WHOLE.length; second++) {
            TrueInk fresh = Due.told(WHOLE[second]);
            String goingOn = Due.goingOn(fresh);
            String asked = Due.asked(fresh);
            for (int first = 0; first < WHOLE.length; first++) {
                for (String between : new String[] {"", "!", "seed 5;"}) {
                    TrueInk x = Due.told(WHOLE[first]);
                    x.days(2);
                    Due.asked(x);
                    Due.read(x, between);
                    Due.is("read " + second + " behind " + first, Due.read(x, WHOLE[second]), 0);
                    Due.same(second + " behind " + first, Due.goingOn(x), goingOn);
                    Due.same("asked " + second + " behind " + first, Due.asked(x), asked);
                }
            }
        }
    }

    private static void readBeginsAnew() {
        Doc.terms(1, "else it is in place of the one ahead: day 0, FACTS as told, no PAGE wiped, all PAGES white, then SETTLED;");
        String text = "fact a 3 1 mine; fact b 1 1 yours; page p some this=4 and a=2; page l all this=0 and a=2;";
        String anew = Due.whole(Due.told(text));
        TrueInk x = Due.told(text);
        x.set(0, 2);
        x.days(5);
        x.wipe(1, true);
        x.set(0, 1);
        x.see(0, 3, 4);
        x.hold(0);
        x.hold(2);
        Due.is("p stays black", x.page(0, 0), 4);
        Due.is("the same text once more", Due.read(x, text), 0);
        Due.same("as of a new object", Due.whole(x), anew);
        Due.is("day 0", x.count(2), 0);
        Due.is("a fact as told", x.fact(0), 1);
        Due.is("no page wiped", x.count(6), 0);
        Due.is("p had been white", x.page(0, 0), 0);
        Doc.terms(1, "nothing can be undone, nothing is TOLD, SLOTS hold nothing.");
        Due.is("nothing to be undone", x.count(8), 0);
        Due.is("undo", x.undo(), false);
        Due.is("nothing seen", x.count(9), 0);
        Due.is("not known", x.fits(1, -1), -1);
        Due.is("nothing held", x.count(10), 0);
        for (int slot = 0; slot < 3; slot++) {
            Due.is("restore " + slot, x.restore(slot), false);
        }
        Due.is("none at all", x.read(), 0);
        Due.same("as of a new object", Due.whole(x), Due.whole(new TrueInk()));
    }
}
