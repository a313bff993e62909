/** Promises 4 and 5: which texts have which fault, and where. A ^ marks the fault's place and is not fed. */
public final class FaultsTest {
    public static void main(String[] args) {
        fine();
        syntax();
        room();
        tokensMost();
        toldWrongly();
        many();
        unknown();
        whichCounts();
        Due.end();
    }

    private static void fault(int number, String marked) {
        int place = marked.indexOf('^');
        String text = marked.substring(0, place) + marked.substring(place + 1);
        TrueInk ink = new TrueInk();
        Due.is("read of " + marked, Due.read(ink, text), number);
        Due.is("place in " + marked, ink.place(), place);
        Due.is("tape behind " + marked, ink.count(7), 0);
        Due.is("facts behind " + marked, ink.count(0), 0);
        Due.is("pages behind " + marked, ink.count(1), 0);
    }

    private static void good(String text) {
        TrueInk ink = new TrueInk();
        Due.is("read of " + text, Due.read(ink, text), 0);
        Due.is("place in " + text, ink.place(), -1);
    }

    private static String nested(int deep, String inside) {
        return Due.times(deep, "(") + inside + Due.times(deep, ")");
    }

    private static void fine() {
        good("");
        good(" \t\r\n ");
        good("fact a 1 0;");
        good("fact a1 0mine;fact b3 3yours;");
        good("fact abcdefgh 0003 0000;");
        good("fact facts 1 0; page pages all facts=1; fact thiss 1 0;");
        good("seed 9999;seed 0;slips 100;slips 0;");
        good("fact a 1 0;goes a=if a<1 then 1 else if 1<a then 0 else if 2<a then 0 else if 3<a then 0 else a;");
        good("page p all q=4;page q some p<1 and day>2;page r part this>0;");
        good("page p all (1+2)*3/(4-5)=day*this;");
        good("page p all 1=1 and 2=2 and 3=3 and 4=4 and 5=5 and 6=6;");
        good("page p all " + nested(6, "1") + "=" + nested(6, "1") + ";");
        good("page p all (1)+(1)+(1)+(1)+(1)+(1)+(1)+(1)=8;");
    }

    private static void syntax() {
        fault(1, "^x");
        fault(1, "^;");
        fault(1, "^7");
        fault(1, "^Fact a 1 0;");
        fault(1, "^facta 1 0;");
        fault(1, "fact ^day 1 0;");
        fault(1, "fact ^all 1 0;");
        fault(1, "fact ^1 1 0;");
        fault(1, "fact ^abcdefghi 1 0;");
        fault(1, "fact a1^;");
        fault(1, "fact a10^;");
        fault(1, "fact a 1 0^");
        fault(1, "fact a 1 0  ^");
        fault(1, "fact a 1 0 ^page p all 1=1;");
        fault(1, "fact a 1 0 mine ^yours;");
        fault(1, "fact a 1 ^-1;");
        fault(1, "fact a 1 0;^.");
        fault(1, "fact a 1 0;^#");
        fault(1, "fact a 1 0;^\u0000");
        fault(1, "fact a 1 0;^\u00ff");
        fault(1, "fact a 1 0;^\f");
        fault(1, "seed ^12345;");
        fault(1, "seed ^00000;");
        fault(1, "seed 1 ^2;");
        fault(1, "seed ^;");
        fault(1, "slips ^x;");
        fault(1, "slips 1^");
        fault(1, "^goess");
        fault(1, "goes ^=1;");
        fault(1, "goes a ^1;");
        fault(1, "goes a = ^;");
        fault(1, "goes a = 1 ^<2;");
        fault(1, "goes a = if 1 ^=2 then 1 else 0;");
        fault(1, "goes a = if 1<2 ^else 0;");
        fault(1, "goes a = if 1<2 then 1^;");
        fault(1, "goes a = if 1<2 then ^if 1<2 then 1 else 0;");
        fault(1, "goes a = if 1<2 then 1 else ^;");
        fault(1, "goes a = 1 ^if 1<2 then 1 else 2;");
        fault(1, "goes a = (^if 1<2 then 1 else 2);");
        fault(1, "page ^page all 1=1;");
        fault(1, "page p ^none 1=1;");
        fault(1, "page p ^1=1;");
        fault(1, "page p all 1^;");
        fault(1, "page p all 1=^;");
        fault(1, "page p all 1<2^<3;");
        fault(1, "page p all 1<^=3;");
        fault(1, "page p all ^-1<0;");
        fault(1, "page p all 1+^*1<0;");
        fault(1, "page p all (1^<2);");
        fault(1, "page p all 1^)=1;");
        fault(1, "page p all (^)=1;");
        fault(1, "page p all (1^=1;");
        fault(1, "page p all 1 ^1=1;");
        fault(1, "page p all 1^(");
        fault(1, "page p all 1=1 and^");
        fault(1, "page p all 1=1 and ^;");
        fault(1, "page p all 1=1 ^mine;");
        fault(1, "page p all 1=^then;");
    }

    private static void room() {
        String eight = "";
        String six = "";
        for (int i = 0; i < 8; i++) {
            eight += "fact a" + (char) ('a' + i) + " 1 0;";
        }
        for (int i = 0; i < 6; i++) {
            six += "page p" + (char) ('a' + i) + " all 1=1;";
        }
        good(eight + six);
        fault(2, eight + " ^fact b 1 0;");
        fault(2, eight + " ^fact aa 9 9;");
        fault(2, eight + " ^fact");
        fault(2, six + " ^page b all 1=1;");
        fault(2, six + " ^page pa");
        fault(2, "page p all 1=1 and 2=2 and 3=3 and 4=4 and 5=5 and 6=6 ^and 7=7;");
        fault(2, "goes a = if 1<1 then 1 else if 1<1 then 1 else if 1<1 then 1 else if 1<1 then 1 else ^if 1<1 then 1 else 0;");
        fault(2, "page p all ((((((^(1)))))))=1;");
        fault(2, "goes a = ((((((^(");
        fault(2, "page p all 1=((((1+((2*^(3)))))));");
        fault(1, "page p all ((((((^<");
    }

    private static void tokensMost() {
        String most = "fact a 1 0; fact b 1 0; " + Due.times(130, "seed 1;");
        good(most);
        fault(2, most + "^seed 1;");
        fault(2, most + " ^slips 101;");
        fault(1, most + " ^1");
        fault(1, most + "^#");
        fault(1, most + "^abcdefghi");
        fault(2, "fact a 1 0; " + Due.times(131, "seed 1;") + "seed 1^;");
        fault(2, "fact a 1 0; " + Due.times(131, "seed 1;") + "seed 1 ^; #");
        fault(1, "fact a 1 0; " + Due.times(131, "seed 1;") + "seed 1 ^seed");
        fault(1, "fact a 1 0; " + Due.times(131, "seed 1;") + "seed 1^");
    }

    private static void toldWrongly() {
        fault(3, "fact a 1 0; fact ^a 1 0;");
        fault(3, "fact a 1 0; page ^a all 1=1;");
        fault(3, "page p all 1=1; page ^p all 1=1;");
        fault(3, "page p all 1=1; fact ^p 1 0;");
        fault(3, "fact a 1 0; fact ^a 9 9; slips 101;");
        fault(4, "goes ^a = 1;");
        fault(4, "goes ^a = 1; fact a 1 0;");
        fault(4, "page p all 1=1; goes ^p = 1;");
        fault(4, "goes ^a = this;");
        fault(5, "fact a ^0 0;");
        fault(5, "fact a ^4 0;");
        fault(5, "fact a ^9999 0;");
        fault(5, "fact a ^0 1;");
        fault(5, "fact a 1 ^2;");
        fault(5, "fact a 3 ^4;");
        fault(5, "fact a 2 ^3 mine;");
        fault(5, "slips ^101;");
        fault(5, "slips ^9999; slips 1;");
        fault(6, "fact a 1 0; goes a = ^this;");
        fault(6, "fact a 1 0; goes a = if 1<^this then 1 else 0;");
        fault(6, "page p all this=1; fact a 1 0; goes a = if 1<1 then 2*(1+^this) else this;");
    }

    private static void many() {
        String five = "fact a 3 0;fact b 3 0;fact c 3 0;fact d 3 0;fact e 3 0;";
        good(five);
        fault(7, five + "fact f ^1 0;");
        fault(7, five + "fact f ^3 0;");
        fault(7, five + "fact f ^1 2;");
        fault(5, five + "fact f ^4 0;");
        fault(5, five + "fact f ^0 0;");
        fault(3, five + "fact ^a 3 0;");
        String ways1944 = "fact a 2 0;fact b 2 0;fact c 2 0;fact d 2 0;fact e 2 0;fact f 1 0;fact g 1 0;fact h 1 0;";
        TrueInk ink = Due.told(ways1944);
        Due.is("worlds", ink.world(1), 1944);
        fault(7, "fact a 2 0;fact b 2 0;fact c 2 0;fact d 2 0;fact e 2 0;fact f 2 0;fact g ^2 0;");
    }

    private static void unknown() {
        fault(8, "page p all ^x=1;");
        fault(8, "page p all p=1 and 1=q; page q all (1+^zz)=yy;");
        fault(8, "fact a 1 0; goes a = ^zz; goes a = 1;");
        fault(8, "fact a 1 0; goes a = if a<^zz then yy else xx;");
        good("page p all q=4; page q all 1=1;");
        good("fact a 1 0; goes a = p+b; page p all 1=1; fact b 1 0;");
    }

    private static void whichCounts() {
        // The form of all the text comes ahead of what is told in it, and that ahead of unknown names.
        fault(1, "fact a 9 0; fact a 1 0; page p all x=1; ^x");
        fault(2, "fact a 9 0; goes x = this; page p all ((((((^(1)))))))=1;");
        fault(5, "page p all x=1; fact a ^9 0;");
        fault(6, "page p all x=1; fact a 1 0; goes a = ^this+y;");
        fault(3, "page p all x=1; fact ^p 9 9;");
        fault(5, "slips ^101; fact a 1 0; fact a 1 0;");
        fault(4, "goes ^x = this; slips 101;");
        fault(1, "page p all 1=1 and 2=2 and 3=3 and 4=4 and 5=5 and 6=^and 7=7;");
    }
}
