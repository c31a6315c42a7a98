/** What the tests share: answers held against what is due, and texts put on THE TAPE. */
final class Due {
    /** The tongue of most tests; at BLUR 0: ta 16 4, ka 17 4, te 16 9, ha 4, aa 4 4, aya 4 20 4, ia 5 4, taka 16 4 17 4. */
    static final String TONGUE = "high a 4;high e 9;high i 5;stop t 0;stop k 1;glide y;mute h;"
            + "word ta;word ka;word te;word ha;word aa;word aya;word ia;word taka;ask 0,1,2;ask 3,4,5,6;";

    private static int wrong = 0;
    private static int asked = 0;

    private Due() {
    }

    static void is(int promise, String call, long got, long want) {
        asked++;
        if (got != want) {
            wrong++;
            System.out.println("promise " + promise + ": " + call + " answered " + got + ", due is " + want);
        }
    }

    static void that(String what, boolean holds) {
        asked++;
        if (!holds) {
            wrong++;
            System.out.println("does not hold: " + what);
        }
    }

    static void put(WhistledWords x, String text) {
        x.end(0);
        int at = 0;
        while (at < text.length()) {
            long v = 0;
            for (int i = 0; i < 8; i++) {
                v = v << 8 | (at + i < text.length() ? text.charAt(at + i) & 255 : ' ');
            }
            x.feed(v);
            at += 8;
        }
        x.end(text.length());
    }

    static int tell(WhistledWords x, String text) {
        put(x, text);
        return x.tongue();
    }

    static WhistledWords speaking(String text) {
        WhistledWords x = new WhistledWords();
        tell(x, text);
        return x;
    }

    static void finish() {
        System.out.println(asked + " answers, " + wrong + " wrong");
        if (wrong != 0) {
            System.exit(1);
        }
    }
}
