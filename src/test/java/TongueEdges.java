/** Boundary cases of WORDS, their rows and what they MEAN: the Terms from SPEECH to CUT, and promises 6 to 14. */
final class TongueEdges {
    private static final int BAD = -1, NONE = -4;
    private static final int[] OUTSIDE = EdgesTest.OUTSIDE;

    private TongueEdges() {
    }

    static void run() {
        speech();
        blurOfMarks();
        sameMarks();
        sameAtGreater();
        meansAndSure();
        apartAndCut();
        word();
        ask();
        blurred();
        apart();
        until();
        cut();
        means();
        meansFaults();
        both();
        sure();
    }

    private static void row(WhistledWords x, int w, int blur, int... due) {
        for (int i = 0; i < due.length; i++) {
            Doc.is("MARK " + i + " of WORD " + w + " at " + blur, x.blurred(w, blur, i), due[i]);
        }
        Doc.is("behind the last MARK of WORD " + w + " at " + blur, x.blurred(w, blur, due.length), NONE);
    }

    private static void speech() {
        Doc.says(Doc.TERMS, "SPEECH of a WORD: MARKS, one for each letter but mute ones: HEIGHT h: h; stop of kind k: 16 and k; glide: 20.");
        WhistledWords x = Due.speaking("high a 0;high b 15;stop c 0;stop d 3;glide e;mute m;word abcde;word mambm;word m;word mmmmmmmm;word aaaaaaaa;");
        row(x, 0, 0, 0, 15, 16, 19, 20);
        row(x, 1, 0, 0, 15);
        row(x, 2, 0);
        row(x, 3, 0);
        row(x, 4, 0, 0, 0, 0, 0, 0, 0, 0, 0);
        Doc.is("MARKS of m", x.word(2, 1), 0);
        Doc.is("MARKS of mmmmmmmm", x.word(3, 1), 0);
        Doc.is("letters of mmmmmmmm", x.word(3, 0), 8);
        Doc.is("MARKS of aaaaaaaa", x.word(4, 1), 8);
    }

    /** All 16 HEIGHTS, each a WORD, at each BLUR; then all stops and the glide. */
    private static void blurOfMarks() {
        Doc.says(Doc.TERMS, "BLUR (0 to 5) makes MARKS others: a HEIGHT h is h divided down by 2 to the BLUR;");
        Doc.says(Doc.TERMS, "Divided down is to the next whole number below (or that itself).");
        StringBuilder text = new StringBuilder();
        for (int h = 0; h < 16; h++) {
            text.append("high ").append((char) ('a' + h)).append(h).append(";word ").append((char) ('a' + h)).append(';');
        }
        WhistledWords x = Due.speaking(text.toString());
        int[] divisors = {1, 2, 4, 8, 16, 32};
        for (int h = 0; h < 16; h++) {
            for (int blur = 0; blur <= 5; blur++) {
                row(x, h, blur, h / divisors[blur]);
            }
        }
        Doc.says(Doc.TERMS, "a stop is 16 and its kind below BLUR 2, 16 at 2 and 3, nothing from 4 on; "
                + "a glide is 20 below BLUR 3, 16 at 3, nothing from 4 on.");
        WhistledWords y = Due.speaking("stop a0;stop b1;stop c2;stop d3;glide e;word a;word b;word c;word d;word e;");
        for (int k = 0; k < 4; k++) {
            row(y, k, 0, 16 + k);
            row(y, k, 1, 16 + k);
            row(y, k, 2, 16);
            row(y, k, 3, 16);
            row(y, k, 4);
            row(y, k, 5);
        }
        row(y, 4, 0, 20);
        row(y, 4, 1, 20);
        row(y, 4, 2, 20);
        row(y, 4, 3, 16);
        row(y, 4, 4);
        row(y, 4, 5);
    }

    private static void sameMarks() {
        Doc.says(Doc.TERMS, "From BLUR 3 on MARKS that are the same, one right behind the other, are one.");
        WhistledWords x = Due.speaking("high a 0;high b 1;high c 8;stop s 1;stop t 2;glide g;mute m;"
                + "word aa;word aaaaaaaa;word aca;word asa;word sgts;word amba;word saas;word ccaacc;");
        row(x, 0, 2, 0, 0);
        row(x, 0, 3, 0);
        row(x, 0, 5, 0);
        row(x, 1, 2, 0, 0, 0, 0, 0, 0, 0, 0);
        row(x, 1, 3, 0);
        row(x, 2, 3, 0, 1, 0);
        row(x, 2, 4, 0);
        row(x, 3, 3, 0, 16, 0);
        row(x, 3, 4, 0);
        row(x, 4, 2, 16, 20, 16, 16);
        row(x, 4, 3, 16);
        row(x, 4, 4);
        row(x, 5, 0, 0, 1, 0);
        row(x, 5, 1, 0, 0, 0);
        row(x, 5, 2, 0, 0, 0);
        row(x, 5, 3, 0);
        row(x, 6, 2, 16, 0, 0, 16);
        row(x, 6, 3, 16, 0, 16);
        row(x, 6, 4, 0);
        row(x, 7, 2, 2, 2, 0, 0, 2, 2);
        row(x, 7, 3, 1, 0, 1);
        row(x, 7, 4, 0);
    }

    private static void sameAtGreater() {
        Doc.says(Doc.TERMS, "(So what is the same at a BLUR is the same at all greater ones.)");
        WhistledWords x = Due.speaking("high a 6;high b 7;high c 9;stop s 1;stop t 2;glide g;mute m;"
                + "word a;word am;word b;word c;word sa;word ta;word ga;word m;word s;word t;word g;");
        int[][] due = {{0, 1, 0}, {0, 2, 1}, {0, 3, 4}, {0, 4, 4}, {4, 5, 2}, {4, 6, 3}, {5, 6, 3}, {7, 8, 4}, {8, 9, 2}, {8, 10, 3}};
        for (int[] pair : due) {
            for (int blur = 0; blur <= 5; blur++) {
                Doc.is("apart " + pair[0] + " " + pair[1] + " at " + blur, x.apart(pair[0], pair[1], blur), blur < pair[2] ? 1 : 0);
            }
            Doc.is("until " + pair[0] + " " + pair[1], x.until(pair[0], pair[1]), pair[2]);
        }
    }

    private static void meansAndSure() {
        Doc.says(Doc.TERMS, "HEARD: a row of MARKS at a BLUR. It MEANS for an ask: its WORDS whose SPEECH at that BLUR is that row. "
                + "SURE, if that is one WORD.");
        WhistledWords x = Due.speaking("high a 6;high b 7;mute m;word a;word b;word am;word m;word bm;ask 0,1,3;ask 0,2;ask 3;ask 1,2;");
        x.sheet(0, 2, 1);
        x.lay(0, 0, 6);
        Doc.is("one WORD", x.means(0, 0, 0, 2, 0, 1), 1);
        Doc.is("it is SURE", x.sure(0, 0), 0);
        Doc.is("two WORDS", x.means(1, 0, 0, 2, 0, 1), 5);
        Doc.is("it is not SURE", x.sure(1, 0), NONE);
        Doc.is("no WORD", x.means(2, 0, 0, 2, 0, 1), 0);
        Doc.is("no WORD at 1", x.means(0, 1, 0, 2, 0, 1), 0);
        x.lay(0, 0, 3);
        Doc.is("two WORDS at 1", x.means(0, 1, 0, 2, 0, 1), 3);
        Doc.is("other ones for another ask", x.means(3, 1, 0, 2, 0, 1), 6);
        Doc.is("the row of no MARKS", x.means(0, 5, 0, 2, 0, 0), 8);
        Doc.is("the row of no MARKS is SURE", x.sure(0, 3), 5);
        Doc.is("the row of no MARKS for another ask", x.means(1, 5, 0, 2, 0, 0), 0);
    }

    private static void apartAndCut() {
        Doc.says(Doc.TERMS, "APART at a BLUR: two WORDS with unlike rows.");
        WhistledWords x = Due.speaking("high a 0;high b 15;stop s 0;mute m;"
                + "word a;word aa;word m;word b;word ab;word ba;word s;word aaaaaaaa;word aaaaaaab;word baaaaaaa;");
        Doc.is("one begins as the other", x.apart(0, 1, 2), 1);
        Doc.is("one ends as the other", x.apart(0, 5, 0), 1);
        Doc.is("none and HEIGHT 0", x.apart(2, 0, 0), 1);
        Doc.is("none and HEIGHT 0 at 5", x.apart(2, 0, 5), 1);
        Doc.is("the other way round", x.apart(4, 5, 0), 1);
        Doc.is("the last of eight", x.apart(7, 8, 0), 1);
        Doc.is("the first of eight", x.apart(7, 9, 0), 1);
        Doc.is("nothing is left of one", x.apart(2, 6, 4), 0);
        Doc.is("something is left", x.apart(2, 6, 3), 1);
        Doc.says(Doc.TERMS, "CUT: of the WORDS of an ask (or all) as many as may be, each two APART: of several such that with the least WORDS one by one.");
        WhistledWords y = Due.speaking("high a 2;high b 3;high c 4;high d 5;word d;word b;word a;word c;ask 3,2,1,0;ask 2,1;ask 2;");
        Doc.is("all", y.cut(0, 0, 1), 15);
        Doc.is("d b, not c a", y.cut(0, 1, 1), 3);
        Doc.is("two", y.cut(0, 1, 0), 2);
        Doc.is("d alone of all", y.cut(0, 3, 1), 1);
        Doc.is("b alone of b a", y.cut(1, 1, 1), 2);
        Doc.is("b alone of b a", y.cut(1, 5, 0), 1);
        Doc.is("one of one", y.cut(2, 5, 1), 4);
        Doc.is("or all", y.cut(NONE, 1, 1), 3);
    }

    private static void word() {
        Doc.says(6, "Of a WORD: 0 letters, 1 MARKS, 2 HEIGHTS among them, 3 in how many asks it is, 10 and i: MARK i. BAD.");
        WhistledWords x = Due.speaking("high a 0;high b 15;stop s 0;glide g;mute m;word m;word sg;word abababab;word asmgbmmm;"
                + "ask 0;ask 0,1;ask 1,0;ask 0,2;ask 2,1,0;ask 2,0;");
        int[][] due = {{1, 0, 0, 6}, {2, 2, 0, 3}, {8, 8, 8, 3}, {8, 4, 2, 0}};
        int[][] marks = {{}, {16, 20}, {0, 15, 0, 15, 0, 15, 0, 15}, {0, 16, 20, 15}};
        for (int w = 0; w < 4; w++) {
            for (int what = 0; what < 4; what++) {
                Doc.is("word " + w + " " + what, x.word(w, what), due[w][what]);
            }
            for (int what = 4; what < 10; what++) {
                Doc.is("word " + w + " " + what, x.word(w, what), BAD);
            }
            for (int i = 0; i < 10; i++) {
                Doc.is("word " + w + " " + (10 + i), x.word(w, 10 + i), i < marks[w].length ? marks[w][i] : BAD);
            }
            for (int n : OUTSIDE) {
                Doc.is("word " + w + " " + n, x.word(w, n), BAD);
            }
        }
        Doc.is("no WORD", x.word(4, 0), BAD);
        Doc.is("no WORD", x.word(4, 10), BAD);
        for (int n : OUTSIDE) {
            Doc.is("word " + n, x.word(n, 0), BAD);
        }
    }

    private static void ask() {
        Doc.says(7, "Of an ask: 0 how many WORDS, 1 these (bits). BAD.");
        StringBuilder text = new StringBuilder("mute a;mute b;mute c;mute d;");
        for (int i = 0; i < 16; i++) {
            text.append("word ").append((char) ('a' + i / 4)).append((char) ('a' + i % 4)).append(';');
        }
        text.append("ask 0;ask 15;ask 0,1,2,3,4,5,6,7,8,9,10,11,12,13,14,15;ask 14,0;ask 8;ask 9;");
        WhistledWords x = Due.speaking(text.toString());
        int[] sizes = {1, 1, 16, 2, 1, 1};
        int[] bits = {1, 32768, 65535, 16385, 256, 512};
        for (int a = 0; a < 6; a++) {
            Doc.is("ask " + a + " 0", x.ask(a, 0), sizes[a]);
            Doc.is("ask " + a + " 1", x.ask(a, 1), bits[a]);
            Doc.is("ask " + a + " 2", x.ask(a, 2), BAD);
        }
        Doc.is("ask 6", x.ask(6, 0), BAD);
        for (int n : OUTSIDE) {
            Doc.is("ask " + n, x.ask(n, 0), BAD);
            Doc.is("NONE is no ask here", x.ask(NONE, 0), BAD);
            Doc.is("ask 0 " + n, x.ask(0, n), BAD);
        }
    }

    private static void blurred() {
        WhistledWords x = Due.speaking("high a 9;mute m;stop s 3;word a;word m;word s;word aaaaaaaa;");
        Doc.says(8, "MARK i (from 0 on) of a WORD at a BLUR.");
        Doc.is("MARK 0", x.blurred(0, 0, 0), 9);
        Doc.is("MARK 0 at 5", x.blurred(0, 5, 0), 0);
        Doc.is("MARK 7", x.blurred(3, 2, 7), 2);
        Doc.says(8, "BAD: also i below 0; NONE: it has no such.");
        Doc.is("MARK 1 of 1", x.blurred(0, 0, 1), NONE);
        Doc.is("MARK 0 of 0", x.blurred(1, 0, 0), NONE);
        Doc.is("MARK 0 of a stop at 3", x.blurred(2, 3, 0), 16);
        Doc.is("MARK 0 of a stop at 4", x.blurred(2, 4, 0), NONE);
        Doc.is("MARK 8 of 8", x.blurred(3, 0, 8), NONE);
        Doc.is("MARK 1 of what are one", x.blurred(3, 3, 1), NONE);
        Doc.is("WORD 4", x.blurred(4, 0, 0), BAD);
        Doc.is("BLUR 6", x.blurred(0, 6, 0), BAD);
        Doc.is("BAD ahead of NONE", x.blurred(0, 6, 1), BAD);
        Doc.is("BAD ahead of NONE", x.blurred(4, 0, 9), BAD);
        // What would be MARK 0, 1 or 7 again if i were taken by 8, 32 or 64.
        for (int i : new int[] {8, 9, 12, 13, 16, 32, 33, 64, 71, 256, 65536}) {
            Doc.is("MARK " + i, x.blurred(3, 0, i), NONE);
        }
        for (int n : OUTSIDE) {
            Doc.is("WORD " + n, x.blurred(n, 0, 0), BAD);
            Doc.is("BLUR " + n, x.blurred(0, n, 0), BAD);
            Doc.is("MARK " + n, x.blurred(0, 0, n), n < 0 ? BAD : NONE);
        }
    }

    private static void apart() {
        Doc.says(9, "Whether two WORDS are APART at a BLUR (1, 0). BAD.");
        WhistledWords x = Due.speaking("high a 0;high b 15;mute m;word a;word b;word am;");
        Doc.is("at 3", x.apart(0, 1, 3), 1);
        Doc.is("at 4", x.apart(0, 1, 4), 0);
        Doc.is("at 5", x.apart(1, 0, 5), 0);
        Doc.is("alike at 0", x.apart(0, 2, 0), 0);
        Doc.is("one and the same", x.apart(1, 1, 0), 0);
        Doc.is("WORD 3", x.apart(3, 0, 0), BAD);
        Doc.is("WORD 3", x.apart(0, 3, 0), BAD);
        Doc.is("WORD 3 twice", x.apart(3, 3, 0), BAD);
        Doc.is("BLUR 6", x.apart(0, 1, 6), BAD);
        for (int n : OUTSIDE) {
            Doc.is("WORD " + n, x.apart(n, 0, 0), BAD);
            Doc.is("WORD " + n, x.apart(0, n, 0), BAD);
            Doc.is("WORD " + n + " twice", x.apart(n, n, 0), BAD);
            Doc.is("BLUR " + n, x.apart(0, 1, n), BAD);
        }
    }

    private static void until() {
        Doc.says(10, "The least BLUR at which two WORDS are not APART. BAD; NONE: they are at all.");
        WhistledWords x = Due.speaking("high a 0;high b 1;high c 2;high d 4;high e 8;mute m;word a;word b;word c;word d;word e;word am;word m;word aaa;");
        int[] due = {0, 1, 2, 3, 4, 0, NONE, 3};
        for (int w = 0; w < 8; w++) {
            Doc.is("0 " + w, x.until(0, w), due[w]);
            Doc.is(w + " 0", x.until(w, 0), due[w]);
            Doc.is(w + " " + w, x.until(w, w), 0);
            Doc.is(w + " 8", x.until(w, 8), BAD);
            Doc.is("8 " + w, x.until(8, w), BAD);
        }
        for (int n : OUTSIDE) {
            Doc.is("0 " + n, x.until(0, n), BAD);
            Doc.is(n + " 0", x.until(n, 0), BAD);
            Doc.is(n + " " + n, x.until(n, n), BAD);
        }
    }

    private static void cut() {
        Doc.says(11, "CUT of an ask's WORDS (NONE: of all) at a BLUR: what 0 how many, 1 these (bits), 2 how many pairs of all are not APART. BAD.");
        WhistledWords x = Due.speaking("high a 0;high b 1;high c 2;high d 4;mute m;word a;word am;word b;word c;word d;ask 1,0,2;ask 4;");
        int[][] ofAsk = {{2, 5, 1}, {1, 1, 3}, {1, 1, 3}, {1, 1, 3}, {1, 1, 3}, {1, 1, 3}};
        int[][] ofAll = {{4, 29, 1}, {3, 25, 3}, {2, 17, 6}, {1, 1, 10}, {1, 1, 10}, {1, 1, 10}};
        int[] ofOne = {1, 16, 0};
        for (int blur = 0; blur <= 5; blur++) {
            for (int what = 0; what <= 2; what++) {
                Doc.is("0 " + blur + " " + what, x.cut(0, blur, what), ofAsk[blur][what]);
                Doc.is("1 " + blur + " " + what, x.cut(1, blur, what), ofOne[what]);
                Doc.is("NONE " + blur + " " + what, x.cut(NONE, blur, what), ofAll[blur][what]);
            }
        }
        Doc.is("ask 2", x.cut(2, 0, 0), BAD);
        Doc.is("BLUR 6", x.cut(0, 6, 0), BAD);
        Doc.is("BLUR 6 of all", x.cut(NONE, 6, 0), BAD);
        Doc.is("what 3", x.cut(0, 0, 3), BAD);
        Doc.is("what 3 of all", x.cut(NONE, 0, 3), BAD);
        for (int n : OUTSIDE) {
            Doc.is("ask " + n, x.cut(n, 0, 0), BAD);
            Doc.is("BLUR " + n, x.cut(0, n, 0), BAD);
            Doc.is("BLUR " + n + " of all", x.cut(NONE, n, 0), BAD);
            Doc.is("what " + n, x.cut(0, 0, n), BAD);
            Doc.is("what " + n + " of all", x.cut(NONE, 0, n), BAD);
        }
        StringBuilder text = new StringBuilder("mute a;mute b;mute c;mute d;");
        for (int i = 0; i < 16; i++) {
            text.append("word ").append((char) ('a' + i / 4)).append((char) ('a' + i % 4)).append(';');
        }
        WhistledWords y = Due.speaking(text.toString());
        Doc.is("16 that are all alike", y.cut(NONE, 0, 0), 1);
        Doc.is("16 that are all alike", y.cut(NONE, 0, 1), 1);
        Doc.is("16 that are all alike", y.cut(NONE, 0, 2), 120);
        WhistledWords z = Due.speaking(text.toString().replace("mute a", "high a1").replace("mute b", "high b2")
                .replace("mute c", "high c3").replace("mute d", "high d4"));
        Doc.is("16 that are all APART", z.cut(NONE, 0, 0), 16);
        Doc.is("16 that are all APART", z.cut(NONE, 0, 1), 65535);
        Doc.is("16 that are all APART", z.cut(NONE, 0, 2), 0);
    }

    private static void means() {
        Doc.says(12, "What a row of n MARKS (0 to 8), CELLS f + i of a SHEET taken as of a lane, MEANS for an ask at a BLUR: the WORDS (bits).");
        WhistledWords x = Due.speaking("high a 4;high b 0;mute m;glide g;word aaaaaaab;word m;word a;word b;word g;ask 0,1,2,3,4;ask 2;");
        for (int lane = 0; lane < 3; lane++) {
            x.sheet(lane, lane, 60);
            for (int i = 52; i < 59; i++) {
                x.lay(lane, i, 4);
            }
            Doc.is("8 MARKS up to the last CELL", x.means(0, 0, lane, lane, 52, 8), 1);
            Doc.is("no MARKS", x.means(0, 0, lane, lane, 0, 0), 2);
            Doc.is("no MARKS behind the last CELL", x.means(0, 0, lane, lane, 60, 0), 2);
            Doc.is("no MARKS, and so no CELL, ahead of the first", x.means(0, 0, lane, lane, -1, 0), 2);
            Doc.is("no MARKS, and so no CELL, far behind the last", x.means(0, 0, lane, lane, Integer.MAX_VALUE, 0), 2);
            Doc.is("no MARKS, none of the ask", x.means(1, 0, lane, lane, 0, 0), 0);
            Doc.is("one MARK", x.means(0, 0, lane, lane, 52, 1), 4);
            Doc.is("CELL 0", x.means(0, 0, lane, lane, 0, 1), 8);
            Doc.is("CELL 59", x.means(0, 0, lane, lane, 59, 1), 8);
            Doc.is("7 MARKS", x.means(0, 0, lane, lane, 52, 7), 0);
            Doc.is("9 MARKS", x.means(0, 0, lane, lane, 51, 9), BAD);
            x.lay(lane, 0, 20);
            Doc.is("a glide", x.means(0, 0, lane, lane, 0, 1), 16);
            for (int none : new int[] {21, 31, 32, 36, 52, -1, -2, -4, -12, 127, -128}) {
                x.lay(lane, 0, none);
                Doc.is(none + " is no MARK", x.means(0, 0, lane, lane, 0, 1), 0);
            }
            x.lay(lane, 0, 0);
        }
    }

    private static void meansFaults() {
        Doc.says(12, "BAD -1: also k, lane; -10 less the FAULT: NULL, CAST, INDEX.");
        WhistledWords x = Due.speaking("high a 0;mute m;word a;word m;ask 0,1;");
        Doc.is("NULL", x.means(0, 0, 3, 0, 0, 1), -11);
        Doc.is("NULL, no MARKS", x.means(0, 0, 3, 2, 0, 0), -11);
        Doc.is("NULL ahead of INDEX", x.means(0, 0, 3, 0, -1, 1), -11);
        Doc.is("BAD ahead of NULL", x.means(0, 0, 3, 0, 0, 9), BAD);
        Doc.is("BAD ahead of NULL", x.means(1, 0, 3, 0, 0, 1), BAD);
        x.sheet(3, 1, 3);
        Doc.is("CAST", x.means(0, 0, 3, 0, 0, 1), -13);
        Doc.is("CAST", x.means(0, 0, 3, 2, 0, 1), -13);
        Doc.is("CAST, no MARKS", x.means(0, 0, 3, 2, 0, 0), -13);
        Doc.is("CAST ahead of INDEX", x.means(0, 0, 3, 2, 3, 1), -13);
        Doc.is("BAD ahead of CAST", x.means(0, 6, 3, 2, 0, 1), BAD);
        Doc.is("the last CELL", x.means(0, 0, 3, 1, 2, 1), 1);
        Doc.is("INDEX 3", x.means(0, 0, 3, 1, 3, 1), -12);
        Doc.is("INDEX 2, 3", x.means(0, 0, 3, 1, 2, 2), -12);
        Doc.is("INDEX -1", x.means(0, 0, 3, 1, -1, 1), -12);
        Doc.is("INDEX -1, 0", x.means(0, 0, 3, 1, -1, 2), -12);
        Doc.is("BAD ahead of INDEX", x.means(0, 0, 3, 1, 3, 9), BAD);
        Doc.is("BAD ahead of INDEX", x.means(0, 0, 3, 3, 3, 1), BAD);
        Doc.is("INDEX that wraps around", x.means(0, 0, 3, 1, Integer.MAX_VALUE, 8), -12);
        Doc.is("INDEX that wraps around", x.means(0, 0, 3, 1, Integer.MAX_VALUE - 6, 8), -12);
        Doc.is("INDEX that wraps around", x.means(0, 0, 3, 1, Integer.MIN_VALUE, 8), -12);
        Doc.is("INDEX of no CELLS", zeroCells(x).means(0, 0, 2, 1, 0, 1), -12);
        Doc.is("no MARKS of no CELLS", zeroCells(x).means(0, 0, 2, 1, 0, 0), 2);
        Doc.is("ask 1", x.means(1, 0, 3, 1, 0, 1), BAD);
        Doc.is("BLUR 6", x.means(0, 6, 3, 1, 0, 1), BAD);
        Doc.is("SHEET 4", x.means(0, 0, 4, 1, 0, 1), BAD);
        Doc.is("lane 3", x.means(0, 0, 3, 3, 0, 1), BAD);
        Doc.is("9 MARKS", x.means(0, 0, 3, 1, 0, 9), BAD);
        for (int n : OUTSIDE) {
            Doc.is("ask " + n, x.means(n, 0, 3, 1, 0, 1), BAD);
            Doc.is("BLUR " + n, x.means(0, n, 3, 1, 0, 1), BAD);
            Doc.is("SHEET " + n, x.means(0, 0, n, 1, 0, 1), BAD);
            Doc.is("lane " + n, x.means(0, 0, 3, n, 0, 1), BAD);
            Doc.is("n " + n, x.means(0, 0, 3, 1, 0, n), BAD);
            Doc.is("f " + n, x.means(0, 0, 3, 1, n, 1), -12);
            Doc.is("f " + n + ", eight", x.means(0, 0, 3, 1, n, 8), -12);
        }
        Doc.is("NONE is no ask here", x.means(NONE, 0, 3, 1, 0, 1), BAD);
    }

    private static WhistledWords zeroCells(WhistledWords x) {
        x.sheet(2, 1, 0);
        return x;
    }

    private static void both() {
        Doc.says(13, "What two hearings of a WORD at two BLURS MEAN together for an ask: the WORDS (bits).");
        WhistledWords x = Due.speaking("high a 0;high b 1;high c 2;high d 8;mute m;word a;word b;word c;word d;word am;ask 0,1,2,3;ask 0,4;ask 3;");
        int[] meant = {1, 3, 7, 7, 15, 15};
        for (int one = 0; one <= 5; one++) {
            for (int two = 0; two <= 5; two++) {
                Doc.is("at " + one + ", " + two, x.both(0, 0, one, two), meant[Math.min(one, two)]);
                Doc.is("alike, at " + one + ", " + two, x.both(1, 4, one, two), 17);
                Doc.is("alone, at " + one + ", " + two, x.both(2, 3, one, two), 8);
            }
        }
        Doc.says(13, "BAD: also the WORD is none of that ask.");
        Doc.is("none of that ask", x.both(1, 1, 0, 0), BAD);
        Doc.is("none of that ask, but alike", x.both(0, 4, 0, 0), BAD);
        Doc.is("WORD 5", x.both(0, 5, 0, 0), BAD);
        Doc.is("WORD 32", x.both(0, 32, 0, 0), BAD);
        Doc.is("ask 3", x.both(3, 0, 0, 0), BAD);
        Doc.is("BLUR 6", x.both(0, 0, 6, 0), BAD);
        Doc.is("BLUR 6", x.both(0, 0, 0, 6), BAD);
        for (int n : OUTSIDE) {
            Doc.is("ask " + n, x.both(n, 0, 0, 0), BAD);
            Doc.is("WORD " + n, x.both(0, n, 0, 0), BAD);
            Doc.is("one " + n, x.both(0, 0, n, 0), BAD);
            Doc.is("two " + n, x.both(0, 0, 0, n), BAD);
        }
    }

    private static void sure() {
        Doc.says(14, "The greatest BLUR at which a WORD is SURE for an ask.");
        WhistledWords x = Due.speaking("high a 0;high b 1;high c 2;high d 4;high e 8;mute m;word a;word b;word c;word d;word e;word am;word m;"
                + "ask 0,1;ask 0,2;ask 0,3;ask 0,4;ask 0,5;ask 0,6;");
        int[] due = {0, 1, 2, 3, NONE, 5};
        for (int ask = 0; ask < 6; ask++) {
            Doc.is("WORD 0 for ask " + ask, x.sure(ask, 0), due[ask]);
            Doc.is("WORD " + (ask + 1) + " for ask " + ask, x.sure(ask, ask + 1), due[ask]);
        }
        WhistledWords y = Due.speaking("mute m;word m;ask 0;");
        Doc.is("the ask's one WORD", y.sure(0, 0), 5);
        Doc.says(14, "BAD: also it is none of that ask; NONE: not at 0.");
        Doc.is("not at 0", x.sure(4, 0), NONE);
        Doc.is("not at 0", x.sure(4, 5), NONE);
        Doc.is("none of that ask", x.sure(0, 2), BAD);
        Doc.is("none of that ask, which would not be SURE", x.sure(0, 5), BAD);
        Doc.is("WORD 7", x.sure(0, 7), BAD);
        Doc.is("WORD 32", x.sure(0, 32), BAD);
        Doc.is("ask 6", x.sure(6, 0), BAD);
        for (int n : OUTSIDE) {
            Doc.is("ask " + n, x.sure(n, 0), BAD);
            Doc.is("WORD " + n, x.sure(0, n), BAD);
        }
    }
}
