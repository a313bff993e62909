/** What the tests of the project share: comparing an answer with the one that is due, and telling texts. */
final class Due {
    private static int asked = 0;
    private static int wrong = 0;

    private Due() {
    }

    static void is(String call, long got, long due) {
        asked++;
        if (got != due) {
            wrong++;
            System.out.println(call + " answered " + got + ", due is " + due);
        }
    }

    static void is(String call, boolean got, boolean due) {
        is(call, got ? 1 : 0, due ? 1 : 0);
    }

    static void end() {
        System.out.println(asked + " answers, " + wrong + " wrong");
        if (wrong != 0) {
            System.exit(1);
        }
    }

    /** Puts just these bytes behind the tape. */
    static void feed(TrueInk ink, String text) {
        int length = text.length();
        for (int from = 0; from < length; from += 20) {
            int[] words = new int[5];
            for (int i = 0; i < 20; i++) {
                int c = from + i < length ? text.charAt(from + i) : ' ';
                words[i / 4] = words[i / 4] << 8 | c & 255;
            }
            ink.feed(words[0], words[1], words[2], words[3], words[4]);
        }
        ink.back((20 - length % 20) % 20);
    }

    static int read(TrueInk ink, String text) {
        feed(ink, text);
        return ink.read();
    }

    /** A new object that was told a text without a fault. */
    static TrueInk told(String text) {
        TrueInk ink = new TrueInk();
        is("read of " + text, read(ink, text), 0);
        return ink;
    }

    /** LOT 100 once more, in 64 bits with what is above 32 cut off. */
    static int lot(int seed, int which) {
        long h = seed;
        for (long it : new long[] {41, which}) {
            h = ((h ^ it) & 0xffffffffL) * 1103515245L + 12345L & 0xffffffffL;
            h = h ^ h >> 15;
        }
        return (int) ((h >> 1) % 100);
    }

    static String times(int n, String text) {
        StringBuilder b = new StringBuilder();
        for (int i = 0; i < n; i++) {
            b.append(text);
        }
        return b.toString();
    }
}
