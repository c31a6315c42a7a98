/** Promises 1 to 14. */
public final class TongueTest {
    private static final int BAD = -1, STATE = -2, FULL = -3, NONE = -4;
    private static final int[] EXTREMES = {Integer.MIN_VALUE, Integer.MIN_VALUE + 9, -5, -4, -3, -2, -1, 16, 99, Integer.MAX_VALUE};

    public static void main(String[] args) {
        newObject();
        feedAndEnd();
        taken();
        faults();
        faultsInTheirOrder();
        limits();
        wordAndAsk();
        blurred();
        apartAndUntil();
        cut();
        means();
        bothAndSure();
        Due.finish();
    }

    private static void newObject() {
        WhistledWords x = new WhistledWords();
        for (int what = 0; what <= 8; what++) {
            Due.is(1, "count " + what, x.count(what), 0);
        }
        Due.is(1, "count 9", x.count(9), NONE);
        Due.is(1, "fault", x.fault(), 0);
        for (int k = 0; k < 4; k++) {
            Due.is(1, "lay " + k, x.lay(k, 0, 1), -11);
        }
        Due.is(1, "word 0", x.word(0, 0), BAD);
        Due.is(1, "ask 0", x.ask(0, 0), BAD);
        Due.is(1, "cut all", x.cut(NONE, 0, 0), 0);
        Due.is(1, "cut all", x.cut(NONE, 5, 2), 0);
        Due.is(1, "childOf", x.childOf(0, 0), BAD);
        Due.is(1, "callOf", x.callOf(0, 0), BAD);
        Due.is(1, "tongue of nothing", x.tongue(), 0);
    }

    private static void feedAndEnd() {
        WhistledWords x = new WhistledWords();
        for (int i = 1; i <= 50; i++) {
            Due.is(2, "feed " + i, x.feed(-1L), 8 * i);
        }
        Due.is(2, "feed beyond 400", x.feed(0), FULL);
        Due.is(2, "count", x.count(8), 400);
        Due.is(3, "end 401", x.end(401), BAD);
        Due.is(3, "end -1", x.end(-1), BAD);
        Due.is(3, "end 400", x.end(400), 400);
        Due.is(3, "end 393", x.end(393), 400);
        Due.is(2, "feed at 393", x.feed(0), FULL);
        Due.is(3, "end 392", x.end(392), 393);
        Due.is(2, "feed at 392", x.feed(0), 400);
        Due.is(3, "end 0", x.end(0), 400);
        Due.is(3, "end 1 of 0", x.end(1), BAD);
        Due.is(3, "end 0 of 0", x.end(0), 0);
        for (int n : EXTREMES) {
            Due.is(3, "end " + n, x.end(n), BAD);
        }
        // "mute m; " with the highest byte first
        Due.is(2, "feed", x.feed(0x6d757465206d3b20L), 8);
        Due.is(2, "tongue", x.tongue(), 0);
        Due.is(2, "letters", x.count(2), 1);
        Due.is(4, "THE TAPE is empty then", x.count(8), 0);
    }

    private static void taken() {
        WhistledWords x = new WhistledWords();
        Due.is(4, "tongue", Due.tell(x, Due.TONGUE), 8);
        Due.is(5, "fault", x.fault(), 0);
        Due.is(34, "words", x.count(0), 8);
        Due.is(34, "asks", x.count(1), 2);
        Due.is(34, "letters", x.count(2), 7);
        Due.is(4, "fault at 5", Due.tell(x, "high ?"), -15);
        Due.is(5, "fault", x.fault(), 1);
        Due.is(4, "words stay", x.count(0), 8);
        Due.is(4, "letters stay", x.count(2), 7);
        Due.is(4, "THE TAPE is empty", x.count(8), 0);
        Due.is(4, "row stays", x.blurred(7, 0, 2), 17);
        Due.is(4, "a new text", Due.tell(x, "   high b 15 ;word b;   ask 0 ; "), 1);
        Due.is(4, "words anew", x.count(0), 1);
        Due.is(4, "letters anew", x.count(2), 1);
        Due.is(4, "ask anew", x.ask(0, 1), 1);
        Due.is(4, "old ask is gone", x.ask(1, 1), BAD);
        Due.is(4, "blanks are not needed", Due.tell(x, "high a4;stop b3;word ab;word ba;ask 01,00;"), 2);
        Due.is(4, "ask", x.ask(0, 1), 3);
        Due.is(4, "blanks alone", Due.tell(x, "    "), 0);
        Due.is(4, "nothing is told", x.count(0) + x.count(1) + x.count(2), 0);
        states();
    }

    private static void states() {
        WhistledWords x = Due.speaking(Due.TONGUE);
        Due.tell(x, ";");
        Due.is(5, "fault", x.fault(), 2);
        x.child();
        Due.put(x, "high");
        Due.is(4, "with a CHILD", x.tongue(), STATE);
        Due.is(4, "THE TAPE stays", x.count(8), 4);
        Due.is(5, "the fault stays", x.fault(), 2);
        Due.is(4, "the words stay", x.count(0), 8);
        WhistledWords y = Due.speaking(Due.TONGUE);
        y.place(0, 0, 0);
        y.sheet(0, 0, 1);
        y.ridge(0, 0);
        Due.is(4, "with a PLACE", Due.tell(y, Due.TONGUE), 8);
        y.call(0, 0, 0, 0, 0, NONE);
        Due.put(y, "high");
        Due.is(4, "with a CALL", y.tongue(), STATE);
        Due.is(4, "THE TAPE stays", y.count(8), 4);
    }

    private static void fault(String text, int fault, int place) {
        WhistledWords x = new WhistledWords();
        Due.is(4, "tongue of '" + text + "'", Due.tell(x, text), -10 - place);
        Due.is(5, "fault of '" + text + "'", x.fault(), fault);
        Due.is(4, "words of '" + text + "'", x.count(0) + x.count(1) + x.count(2), 0);
    }

    private static void faults() {
        fault("?", 1, 0);
        fault(".", 1, 0);
        fault("mute m;\n", 1, 7);
        fault("mute m;\u0080", 1, 7);
        fault("mute m;\u00e1", 1, 7);
        fault("mute M;", 1, 5);
        fault("mute \0", 1, 5);
        fault("high a 100;", 1, 7);
        fault("high a 000;", 1, 7);
        fault("high 1234567890123;", 1, 5);
        fault("mute `;", 1, 5);
        fault("mute {;", 1, 5);
        fault("high a /;", 1, 7);
        fault("high a :;", 1, 7);
        fault("low a;", 2, 0);
        fault("bigh a 3;", 2, 0);
        fault("higi a 3;", 2, 0);
        fault("hig h 3;", 2, 0);
        fault("highh 3;", 2, 0);
        fault("3;", 2, 0);
        fault(" ;", 2, 1);
        fault(",", 2, 0);
        fault("high", 2, 4);
        fault("high  ", 2, 6);
        fault("high a", 2, 6);
        fault("high a ;", 2, 7);
        fault("high a b;", 2, 7);
        fault("high 3 a;", 2, 5);
        fault("high ab 3;", 2, 5);
        fault("high a 3 ", 2, 9);
        fault("high a 3,", 2, 8);
        fault("high a 3 4;", 2, 9);
        fault("mute m", 2, 6);
        fault("mute m;glide gg;", 2, 13);
        fault("mute m;word m", 2, 13);
        fault("mute m;word 3;", 2, 12);
        fault("mute m;word m;ask", 2, 17);
        fault("mute m;word m;ask m;", 2, 18);
        fault("mute m;word m;ask 0", 2, 19);
        fault("mute m;word m;ask 0,", 2, 20);
        fault("mute m;word m;ask 0,;", 2, 20);
        fault("mute m;word m;ask 0 0;", 2, 20);
        fault("mute m;word m;ask 0;;", 2, 20);
        fault("high a 16;", 3, 7);
        fault("high a 99;", 3, 7);
        fault("stop a 4;", 3, 7);
        fault("ask 0;", 3, 4);
        fault("mute m;word m;ask 1;", 3, 18);
        fault("mute m;word m;word mm;ask 1,0,1;", 3, 30);
        fault("mute m;mute m;", 4, 12);
        fault("mute m;high m 99;", 4, 12);
        fault("mute m;stop m?", 4, 12);
        fault("mute m;word m;word m;", 4, 19);
        fault("word a;", 5, 5);
        fault("mute m;word mmmmmmmmm;", 5, 12);
        fault("mute m;word mma?", 5, 12);
        fault("mute m;word nnnnnnnnnnn", 5, 12);
    }

    private static void faultsInTheirOrder() {
        fault("high a 16?", 3, 7);
        fault("high a 16,", 3, 7);
        fault("high a 16", 3, 7);
        fault("high ab ?", 2, 5);
        fault("low ?", 2, 0);
        fault("mute m;word m;ask 0,0?", 3, 20);
        fault("mute m;word m;ask 7?", 3, 18);
        fault("high 123 a;", 1, 5);
    }

    private static void limits() {
        WhistledWords x = new WhistledWords();
        StringBuilder text = new StringBuilder("mute a;mute b;mute c;mute d;");
        for (int i = 0; i < 16; i++) {
            text.append("word ").append((char) ('a' + i / 4)).append((char) ('a' + i % 4)).append(';');
        }
        int full = text.length();
        Due.is(4, "16 words", Due.tell(x, text.toString()), 16);
        Due.is(4, "the 17th", Due.tell(x, text + "word"), -10 - full);
        Due.is(5, "the 17th", x.fault(), 6);
        Due.is(4, "the 17th, which is no word either", Due.tell(x, text + " word zz;"), -11 - full);
        Due.is(5, "the 17th, which is no word either", x.fault(), 6);
        Due.is(4, "all in one ask", Due.tell(x, text + "ask 0,1,2,3,4,5,6,7,8,9,10,11,12,13,14,15;"), 16);
        Due.is(7, "all in one ask", x.ask(0, 0), 16);
        Due.is(7, "all in one ask", x.ask(0, 1), 65535);
        Due.is(4, "all, and one twice", Due.tell(x, text + "ask 0,1,2,3,4,5,6,7,8,9,10,11,12,13,14,15,3;"), -10 - full - 42);
        Due.is(5, "all, and one twice", x.fault(), 3);
        String asks = "ask 0;ask 0;ask 1,0;ask 2;ask 3;ask 15;";
        Due.is(4, "6 asks", Due.tell(x, text + asks), 16);
        Due.is(34, "6 asks", x.count(1), 6);
        Due.is(6, "word 0 is in", x.word(0, 3), 3);
        Due.is(6, "word 4 is in", x.word(4, 3), 0);
        Due.is(4, "the 7th", Due.tell(x, text + asks + "ask 99;"), -10 - full - asks.length());
        Due.is(5, "the 7th", x.fault(), 6);
        StringBuilder letters = new StringBuilder();
        for (char c = 'a'; c <= 'z'; c++) {
            letters.append("glide ").append(c).append(';');
        }
        Due.is(4, "26 letters, 8 of them a word", Due.tell(x, letters + "word azazazaz;"), 1);
        Due.is(34, "26 letters", x.count(2), 26);
        Due.is(6, "8 letters", x.word(0, 0), 8);
        Due.is(6, "8 marks", x.word(0, 1), 8);
        Due.is(6, "mark 7", x.word(0, 17), 20);
        Due.is(6, "mark 8", x.word(0, 18), BAD);
        StringBuilder long400 = new StringBuilder("mute m;");
        while (long400.length() < 400) {
            long400.append(' ');
        }
        Due.is(4, "400 bytes", Due.tell(x, long400.toString()), 0);
        Due.is(34, "400 bytes", x.count(2), 1);
        long400.setCharAt(399, 'a');
        Due.is(4, "400 bytes", Due.tell(x, long400.toString()), -10 - 399);
        Due.is(5, "400 bytes", x.fault(), 2);
        long400.setLength(398);
        Due.is(4, "the end at 400", Due.tell(x, long400.append("as").toString()), -10 - 398);
        long400.setLength(397);
        Due.is(4, "the end at 400", Due.tell(x, long400.append("ask").toString()), -10 - 397 - 3);
        Due.is(5, "the end at 400", x.fault(), 2);
    }

    private static void wordAndAsk() {
        WhistledWords x = Due.speaking(Due.TONGUE);
        int[][] marks = {{16, 4}, {17, 4}, {16, 9}, {4}, {4, 4}, {4, 20, 4}, {5, 4}, {16, 4, 17, 4}};
        int[] letters = {2, 2, 2, 2, 2, 3, 2, 4};
        int[] heights = {1, 1, 1, 1, 2, 2, 2, 2};
        for (int w = 0; w < 8; w++) {
            Due.is(6, "letters of " + w, x.word(w, 0), letters[w]);
            Due.is(6, "marks of " + w, x.word(w, 1), marks[w].length);
            Due.is(6, "heights of " + w, x.word(w, 2), heights[w]);
            Due.is(6, "asks of " + w, x.word(w, 3), w < 7 ? 1 : 0);
            for (int i = 0; i < 10; i++) {
                int due = i < marks[w].length ? marks[w][i] : BAD;
                Due.is(6, "mark " + i + " of " + w, x.word(w, 10 + i), due);
            }
            for (int what = 4; what < 10; what++) {
                Due.is(6, "what " + what, x.word(w, what), BAD);
            }
        }
        Due.is(6, "no word", x.word(8, 0), BAD);
        Due.is(7, "words of ask 0", x.ask(0, 0), 3);
        Due.is(7, "ask 0", x.ask(0, 1), 7);
        Due.is(7, "words of ask 1", x.ask(1, 0), 4);
        Due.is(7, "ask 1", x.ask(1, 1), 120);
        Due.is(7, "no ask", x.ask(2, 0), BAD);
        Due.is(7, "what 2", x.ask(0, 2), BAD);
        for (int n : EXTREMES) {
            Due.is(6, "word " + n, x.word(n, 0), BAD);
            Due.is(6, "word what " + n, x.word(0, n == 16 ? 14 : n), BAD);
            Due.is(7, "ask " + n, x.ask(n, 0), BAD);
            Due.is(7, "ask what " + n, x.ask(0, n), BAD);
        }
    }

    private static void row(WhistledWords x, int w, int blur, int... due) {
        for (int i = 0; i < due.length; i++) {
            Due.is(8, "blurred " + w + " " + blur + " " + i, x.blurred(w, blur, i), due[i]);
        }
        for (int i = due.length; i < 12; i++) {
            Due.is(8, "blurred " + w + " " + blur + " " + i, x.blurred(w, blur, i), NONE);
        }
    }

    private static void blurred() {
        WhistledWords x = Due.speaking("high a 15;high b 8;high c 0;stop s 0;stop t 3;glide g;mute m;"
                + "word abcstgma;word stst;word gtsg;word aab;word mm;word cmc;");
        row(x, 0, 0, 15, 8, 0, 16, 19, 20, 15);
        row(x, 0, 1, 7, 4, 0, 16, 19, 20, 7);
        row(x, 0, 2, 3, 2, 0, 16, 16, 20, 3);
        row(x, 0, 3, 1, 0, 16, 1);
        row(x, 0, 4, 0);
        row(x, 0, 5, 0);
        row(x, 1, 1, 16, 19, 16, 19);
        row(x, 1, 2, 16, 16, 16, 16);
        row(x, 1, 3, 16);
        row(x, 1, 4);
        row(x, 2, 2, 20, 16, 16, 20);
        row(x, 2, 3, 16);
        row(x, 2, 5);
        row(x, 3, 2, 3, 3, 2);
        row(x, 3, 3, 1);
        row(x, 4, 0);
        row(x, 4, 5);
        row(x, 5, 2, 0, 0);
        row(x, 5, 3, 0);
        Due.is(8, "blur 6", x.blurred(0, 6, 0), BAD);
        Due.is(8, "blur -1", x.blurred(0, -1, 0), BAD);
        Due.is(8, "i -1", x.blurred(0, 0, -1), BAD);
        Due.is(8, "no word", x.blurred(6, 0, 0), BAD);
        Due.is(8, "i far", x.blurred(0, 0, Integer.MAX_VALUE), NONE);
        for (int n : EXTREMES) {
            Due.is(8, "word " + n, x.blurred(n, 0, 0), BAD);
            Due.is(8, "blur " + n, x.blurred(0, n, 0), BAD);
            Due.is(8, "i " + n, x.blurred(0, 0, n), n < 0 ? BAD : NONE);
        }
    }

    private static void apartAndUntil() {
        WhistledWords x = Due.speaking(Due.TONGUE + "word h;");
        Due.is(9, "0 1 at 1", x.apart(0, 1, 1), 1);
        Due.is(9, "0 1 at 2", x.apart(0, 1, 2), 0);
        Due.is(9, "1 0 at 2", x.apart(1, 0, 2), 0);
        Due.is(9, "0 2 at 3", x.apart(0, 2, 3), 1);
        Due.is(9, "0 2 at 4", x.apart(0, 2, 4), 0);
        Due.is(9, "3 3 at 0", x.apart(3, 3, 0), 0);
        Due.is(9, "7 8 at 5", x.apart(7, 8, 5), 1);
        Due.is(10, "0 1", x.until(0, 1), 2);
        Due.is(10, "4 6", x.until(4, 6), 1);
        Due.is(10, "6 4", x.until(6, 4), 1);
        Due.is(10, "3 4", x.until(3, 4), 3);
        Due.is(10, "0 5", x.until(0, 5), 4);
        Due.is(10, "5 5", x.until(5, 5), 0);
        Due.is(10, "0 8", x.until(0, 8), NONE);
        Due.is(10, "8 8", x.until(8, 8), 0);
        for (int n : EXTREMES) {
            Due.is(9, "apart " + n, x.apart(n, 0, 0), BAD);
            Due.is(9, "apart " + n, x.apart(0, n, 0), BAD);
            Due.is(9, "apart " + n, x.apart(0, 0, n), BAD);
            Due.is(10, "until " + n, x.until(n, 0), BAD);
            Due.is(10, "until " + n, x.until(0, n), BAD);
        }
        Due.is(9, "apart no word", x.apart(0, 9, 0), BAD);
        Due.is(9, "apart blur 6", x.apart(0, 1, 6), BAD);
        Due.is(10, "until no word", x.until(9, 0), BAD);
    }

    private static void cut() {
        WhistledWords x = Due.speaking(Due.TONGUE + "ask 7,4,1;");
        Due.is(11, "ask 0 at 0", x.cut(0, 0, 0), 3);
        Due.is(11, "ask 0 at 0", x.cut(0, 0, 1), 7);
        Due.is(11, "ask 0 at 0", x.cut(0, 0, 2), 0);
        Due.is(11, "ask 0 at 2", x.cut(0, 2, 0), 2);
        Due.is(11, "ask 0 at 2", x.cut(0, 2, 1), 5);
        Due.is(11, "ask 0 at 2", x.cut(0, 2, 2), 1);
        Due.is(11, "ask 0 at 5", x.cut(0, 5, 1), 1);
        Due.is(11, "ask 0 at 5", x.cut(0, 5, 2), 3);
        Due.is(11, "ask 2 at 4", x.cut(2, 4, 1), 2);
        Due.is(11, "all at 0", x.cut(NONE, 0, 1), 255);
        Due.is(11, "all at 3", x.cut(NONE, 3, 1), 173);
        Due.is(11, "all at 3", x.cut(NONE, 3, 0), 5);
        Due.is(11, "all at 3", x.cut(NONE, 3, 2), 4);
        Due.is(11, "all at 4", x.cut(NONE, 4, 2), 28);
        Due.is(11, "no ask", x.cut(3, 0, 0), BAD);
        Due.is(11, "blur 6", x.cut(0, 6, 0), BAD);
        Due.is(11, "all, blur 6", x.cut(NONE, 6, 0), BAD);
        Due.is(11, "what 3", x.cut(0, 0, 3), BAD);
        Due.is(11, "all, what 3", x.cut(NONE, 0, 3), BAD);
        for (int n : EXTREMES) {
            if (n != NONE) {
                Due.is(11, "ask " + n, x.cut(n, 0, 0), BAD);
            }
            Due.is(11, "blur " + n, x.cut(0, n, 0), BAD);
            Due.is(11, "what " + n, x.cut(0, 0, n), BAD);
        }
    }

    private static void means() {
        WhistledWords x = Due.speaking(Due.TONGUE);
        Due.is(12, "nothing", x.means(0, 0, 1, 0, 0, 0), -11);
        Due.is(12, "nothing, of no CELLS", x.means(0, 0, 1, 2, 99, 8), -11);
        int[] heard = {4, 4, 20, 4, 16, 1, 21, -12};
        for (int lane = 0; lane < 3; lane++) {
            x.sheet(lane, lane, 8);
            for (int i = 0; i < 8; i++) {
                x.lay(lane, i, heard[i]);
            }
            Due.is(12, "ha", x.means(1, 0, lane, lane, 0, 1), 8);
            Due.is(12, "aa", x.means(1, 0, lane, lane, 0, 2), 16);
            Due.is(12, "aya", x.means(1, 0, lane, lane, 1, 3), 32);
            Due.is(12, "aya for another ask", x.means(0, 0, lane, lane, 1, 3), 0);
            Due.is(12, "ta, ka at 2", x.means(0, 2, lane, lane, 4, 2), 3);
            Due.is(12, "te at 3", x.means(0, 3, lane, lane, 4, 2), 4);
            Due.is(12, "no MARK", x.means(0, 0, lane, lane, 6, 1), 0);
            Due.is(12, "no MARK", x.means(0, 0, lane, lane, 7, 1), 0);
            Due.is(12, "eight", x.means(1, 0, lane, lane, 0, 8), 0);
            Due.is(12, "another lane", x.means(1, 0, lane, (lane + 1) % 3, 0, 1), -13);
            Due.is(12, "another lane ahead of the index", x.means(1, 0, lane, (lane + 2) % 3, 99, 1), -13);
            Due.is(12, "another lane, no CELLS", x.means(1, 0, lane, (lane + 2) % 3, 0, 0), -13);
            Due.is(12, "index 8", x.means(1, 0, lane, lane, 8, 1), -12);
            Due.is(12, "index 1 to 8", x.means(1, 0, lane, lane, 1, 8), -12);
            Due.is(12, "index -1", x.means(1, 0, lane, lane, -1, 2), -12);
            Due.is(12, "index at the top", x.means(1, 0, lane, lane, Integer.MAX_VALUE, 8), -12);
            Due.is(12, "index at the bottom", x.means(1, 0, lane, lane, Integer.MIN_VALUE, 8), -12);
            Due.is(12, "no CELLS, any f", x.means(1, 0, lane, lane, Integer.MAX_VALUE, 0), 0);
            Due.is(12, "no CELLS, any f", x.means(1, 0, lane, lane, -1, 0), 0);
        }
        Due.is(12, "no ask", x.means(2, 0, 0, 0, 0, 1), BAD);
        Due.is(12, "NONE is no ask", x.means(NONE, 0, 0, 0, 0, 1), BAD);
        Due.is(12, "blur 6", x.means(0, 6, 0, 0, 0, 1), BAD);
        Due.is(12, "sheet 4", x.means(0, 0, 4, 0, 0, 1), BAD);
        Due.is(12, "lane 3", x.means(0, 0, 0, 3, 0, 1), BAD);
        Due.is(12, "n 9", x.means(0, 0, 0, 0, 0, 9), BAD);
        Due.is(12, "n 9 of nothing", x.means(0, 0, 3, 0, 0, 9), BAD);
        for (int n : EXTREMES) {
            Due.is(12, "ask " + n, x.means(n, 0, 0, 0, 0, 1), BAD);
            Due.is(12, "blur " + n, x.means(0, n, 0, 0, 0, 1), BAD);
            Due.is(12, "sheet " + n, x.means(0, 0, n, 0, 0, 1), BAD);
            Due.is(12, "lane " + n, x.means(0, 0, 0, n, 0, 1), BAD);
            Due.is(12, "n " + n, x.means(0, 0, 0, 0, 0, n), BAD);
            Due.is(12, "f " + n, x.means(0, 0, 0, 0, n, 1), -12);
        }
        x.lay(2, 0, 256 + 4);
        Due.is(12, "an INT that is no MARK", x.means(1, 0, 2, 2, 0, 1), 0);
        x.lay(0, 0, 256 + 4);
        Due.is(12, "a BYTE keeps its lowest bits", x.means(1, 0, 0, 0, 0, 1), 8);
        // 36 is 4 and 32, which must not be taken for MARKS 4 and 0; -1 must not be taken for no MARK.
        WhistledWords z = Due.speaking("mute m;high a 4;high o 0;word ao;word m;word o;word a;ask 0,1,2,3;");
        z.sheet(0, 2, 8);
        z.lay(0, 0, 36);
        Due.is(12, "36", z.means(0, 0, 0, 2, 0, 1), 0);
        Due.is(12, "MARK 0", z.means(0, 0, 0, 2, 1, 1), 4);
        z.lay(0, 0, 4);
        Due.is(12, "MARKS 4 and 0", z.means(0, 0, 0, 2, 0, 2), 1);
        z.lay(0, 1, -1);
        Due.is(12, "-1", z.means(0, 0, 0, 2, 1, 1), 0);
        Due.is(12, "4 and -1", z.means(0, 0, 0, 2, 0, 2), 0);
        z.lay(0, 1, Integer.MIN_VALUE);
        Due.is(12, "4 and the least", z.means(0, 0, 0, 2, 0, 2), 0);
        WhistledWords y = Due.speaking("mute m;high a 3;word m;word mm;word a;ask 0,2;ask 1,0;");
        y.sheet(3, 1, 0);
        Due.is(12, "the empty row", y.means(0, 0, 3, 1, 0, 0), 1);
        Due.is(12, "the empty row", y.means(1, 5, 3, 1, 0, 0), 3);
    }

    private static void bothAndSure() {
        WhistledWords x = Due.speaking(Due.TONGUE + "word ah;word a;" + "ask 3,8,0;ask 9,0;");
        Due.is(13, "at 2 and 0", x.both(0, 0, 2, 0), 1);
        Due.is(13, "at 0 and 2", x.both(0, 0, 0, 2), 1);
        Due.is(13, "at 2 and 3", x.both(0, 1, 2, 3), 3);
        Due.is(13, "at 4 and 4", x.both(0, 2, 4, 4), 7);
        Due.is(13, "same speech", x.both(2, 3, 0, 0), 264);
        Due.is(13, "it is none of that ask", x.both(0, 3, 0, 0), BAD);
        Due.is(13, "no ask", x.both(4, 0, 0, 0), BAD);
        Due.is(13, "no word", x.both(0, 10, 0, 0), BAD);
        Due.is(13, "blur 6", x.both(0, 0, 6, 0), BAD);
        Due.is(13, "blur 6", x.both(0, 0, 0, 6), BAD);
        Due.is(14, "ta among 0", x.sure(0, 0), 1);
        Due.is(14, "te among 0", x.sure(0, 2), 3);
        Due.is(14, "same speech", x.sure(2, 3), NONE);
        Due.is(14, "ta among 2", x.sure(2, 0), 3);
        Due.is(14, "a among 3", x.sure(3, 9), 3);
        Due.is(14, "it is none of that ask", x.sure(0, 3), BAD);
        Due.is(14, "no ask", x.sure(4, 0), BAD);
        Due.is(14, "no word", x.sure(0, 10), BAD);
        for (int n : EXTREMES) {
            Due.is(13, "ask " + n, x.both(n, 0, 0, 0), BAD);
            Due.is(13, "word " + n, x.both(0, n, 0, 0), BAD);
            Due.is(13, "one " + n, x.both(0, 0, n, 0), BAD);
            Due.is(13, "two " + n, x.both(0, 0, 0, n), BAD);
            Due.is(14, "ask " + n, x.sure(n, 0), BAD);
            Due.is(14, "word " + n, x.sure(0, n), BAD);
        }
        Due.is(14, "ia among 1", x.sure(1, 6), 0);
        Due.is(14, "alone", Due.speaking("mute m;word m;ask 0;").sure(0, 0), 5);
    }
}
