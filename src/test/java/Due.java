/** What the tests of the project share: comparing an answer with the one that is due, and telling texts. */
final class Due {
    private static int asked = 0;
    private static int wrong = 0;

    private Due() {
    }

    static void is(String call, long got, long due) {
        asked++;
        if (got != due) {
            wrong++;
            System.out.println(call + " answered " + got + ", due is " + due);
        }
    }

    static void is(String call, boolean got, boolean due) {
        is(call, got ? 1 : 0, due ? 1 : 0);
    }

    static void end() {
        System.out.println(asked + " answers, " + wrong + " wrong");
        if (wrong != 0) {
            System.exit(1);
        }
    }

    /** Puts just these bytes behind the tape. */
    static void feed(TrueInk ink, String text) {
        int length = text.length();
        for (int from = 0; from < length; from += 20) {
            int[] words = new int[5];
            for (int i = 0; i < 20; i++) {
                int c = from + i < length ? text.charAt(from + i) : ' ';
                words[i / 4] = words[i / 4] << 8 | c & 255;
            }
            ink.feed(words[0], words[1], words[2], words[3], words[4]);
        }
        ink.back((20 - length % 20) % 20);
    }

    static int read(TrueInk ink, String text) {
        feed(ink, text);
        return ink.read();
    }

    /** A new object that was told a text without a fault. */
    static TrueInk told(String text) {
        TrueInk ink = new TrueInk();
        is("read of " + text, read(ink, text), 0);
        return ink;
    }

    /** A ^ marks the fault's place and is not fed. */
    static void fault(int number, String marked) {
        int place = marked.indexOf('^');
        String text = marked.substring(0, place) + marked.substring(place + 1);
        TrueInk ink = new TrueInk();
        is("read of " + marked, read(ink, text), number);
        is("place in " + marked, ink.place(), place);
        is("tape behind " + marked, ink.count(7), 0);
        is("facts behind " + marked, ink.count(0), 0);
        is("pages behind " + marked, ink.count(1), 0);
    }

    static void good(String text) {
        is("place in " + text, told(text).place(), -1);
    }

    /** All that goes on, as one text. */
    static String goingOn(TrueInk ink) {
        StringBuilder b = new StringBuilder("counts");
        for (int w : new int[] {0, 1, 2, 3, 4, 5, 6, 11, 12}) {
            b.append(' ').append(ink.count(w));
        }
        b.append(" facts");
        for (int f = 0; f < ink.count(0); f++) {
            b.append(' ').append(ink.fact(f));
        }
        for (int p = 0; p < ink.count(1); p++) {
            b.append(" page");
            for (int w = 0; w <= 6; w++) {
                b.append(' ').append(ink.page(p, w));
            }
        }
        return b + " settled " + ink.settled(0) + " " + ink.settled(1) + " " + ink.settled(2);
    }

    /** What goes on, can be undone, was seen and is held: it stays as it is where nothing happens. */
    static String whole(TrueInk ink) {
        int seen = ink.count(9);
        return goingOn(ink) + " undo " + ink.count(8) + " seen " + seen + " held " + ink.count(10) + " fits " + ink.fits(seen, -1)
                + " sure " + ink.sure(seen);
    }

    /** What would be, and what may have been, as one text. */
    static String asked(TrueInk ink) {
        int pages = ink.count(1);
        StringBuilder b = new StringBuilder("worlds " + ink.world(0) + " " + ink.world(1) + " stands " + ink.stands(-1) + " " + ink.stands(0));
        b.append(" best ").append(ink.bestWorld(0)).append(' ').append(ink.bestWorld(1)).append(' ').append(ink.bestWorld(2));
        b.append(" changed ").append(ink.changed(3)).append(" again ").append(ink.again(0)).append(' ').append(ink.again(1));
        for (int p = 0; p < pages; p++) {
            b.append(" page ").append(ink.least(p, 0)).append(' ').append(ink.least(p, 1)).append(' ').append(ink.when(p));
            b.append(' ').append(ink.stays(p)).append(' ').append(ink.longest(p, 9)).append(' ').append(ink.shade(p, 2));
            b.append(' ').append(ink.blackIn(p)).append(' ').append(ink.grey(p, false)).append(' ').append(ink.grey(p, true));
            b.append(' ').append(ink.weight(p, 0)).append(' ').append(ink.weakest(p, 0)).append(' ').append(ink.weakest(p, 1));
            b.append(' ').append(ink.rests(p, (p + 1) % pages, -1)).append(' ').append(ink.rests(p, (p + 1) % pages, 0));
            b.append(' ').append(ink.hopes(p, 2, 5));
        }
        return b + " " + askedOfTheText(ink);
    }

    private static String askedOfTheText(TrueInk ink) {
        int seen = ink.count(9);
        return "twins " + ink.twins(2, 0) + " " + ink.twins(2, 1) + " fits " + ink.fits(seen, -1) + " " + ink.fits(seen, 0) + " sure " + ink.sure(seen)
                + " next " + ink.next(seen, 2, 0) + " " + ink.next(seen, 2, 1) + " fewest " + ink.fewest(2, 0) + " " + ink.fewest(2, 1);
    }

    static void same(String call, String got, String due) {
        is(call + ": " + got + " must be " + due, got.equals(due), true);
    }

    /** LOT 100 once more, in 64 bits with what is above 32 cut off. */
    static int lot(int seed, int which) {
        long h = seed;
        for (long it : new long[] {41, which}) {
            h = ((h ^ it) & 0xffffffffL) * 1103515245L + 12345L & 0xffffffffL;
            h = h ^ h >> 15;
        }
        return (int) ((h >> 1) % 100);
    }

    static String times(int n, String text) {
        StringBuilder b = new StringBuilder();
        for (int i = 0; i < n; i++) {
            b.append(text);
        }
        return b.toString();
    }
}
