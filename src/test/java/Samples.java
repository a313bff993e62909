/** Texts that several tests lean on. */
final class Samples {
    /** a goes 0, 1, 2, 3, 0, ..; each page is black on some of these days. */
    static final String ROUND = "fact a 3 0; goes a = if a<3 then a+1 else 0;"
            + "page two all a=2; page low all a<3; page never all a>3; page ever all a<4; page half part a>0 and a>1;";

    /** A page with which any shade stands. */
    static final String ANY = " part this>0 and this>1 and this>2 and this>3;";

    private Samples() {
    }

    /** Facts count by fours up to 300, a day each, and stay there. */
    static String countTo300(int first) {
        return "fact a 3 " + first + "; fact b 3 0; fact c 3 0; fact d 3 0; fact e 1 0;"
                + "goes a = if 299<a+4*b+16*c+64*d+256*e then a else if a<3 then a+1 else 0;"
                + "goes b = if a<3 then b else if b<3 then b+1 else 0;"
                + "goes c = if a+b<6 then c else if c<3 then c+1 else 0;"
                + "goes d = if a+b+c<9 then d else if d<3 then d+1 else 0;"
                + "goes e = if a+b+c+d<12 then e else 1;";
    }

    /**
     * While they settle, pages count by fives, a step each: with f 0 up to 1, with f 1 up to 300, where they stay: a and b
     * are white then, c and d 2.
     */
    static String stepTo300(int f) {
        return "fact f 1 " + f + "; page a part this/4+d/2*(c/2)<1 and this*(4-this)*(f+this/2)>0 and (this-1)*(4-this)>0 and this=3;"
                + fivesOf("b", "(this+a/4)") + fivesOf("c", "(this+a*b/16)")
                + "page d part this+a*b*c/64>0 and this+a*b*c/64>1 and 1=0 and 1=0;";
    }

    private static String fivesOf(String name, String sum) {
        return "page " + name + " part T*(5-T)>0 and (T-1)*(5-T)>0 and (T-2)*(5-T)>0 and T=4;".replace("T", sum);
    }
}
