/** Promises 30 to 34. */
public final class ChildrenTest {
    private static final int BAD = -1, FULL = -3, NONE = -4;
    private static final int[] EXTREMES = {Integer.MIN_VALUE, Integer.MIN_VALUE + 9, Integer.MIN_VALUE + 10, -5, -4, -3, -2, -1, 100, Integer.MAX_VALUE};

    public static void main(String[] args) {
        child();
        learn();
        childOf();
        confusion();
        oneWord();
        lessons();
        count();
        Due.finish();
    }

    private static void child() {
        WhistledWords x = new WhistledWords();
        for (int c = 0; c < 4; c++) {
            Due.is(30, "child " + c, x.child(), c);
        }
        Due.is(30, "the 5th", x.child(), FULL);
        Due.is(34, "children", x.count(7), 4);
        Due.is(32, "no WORDS, pairs", x.childOf(0, 0), 0);
        Due.is(32, "no WORDS, groups", x.childOf(0, 2), 0);
        Due.is(32, "no WORDS, greatest", x.childOf(0, 3), 0);
        Due.is(32, "no WORD", x.childOf(0, 10), BAD);
    }

    private static void learn() {
        WhistledWords x = Due.speaking(Due.TONGUE);
        Due.is(31, "no child", x.learn(0, 0, 1), BAD);
        x.child();
        x.child();
        Due.is(31, "0 1", x.learn(0, 0, 1), 1);
        Due.is(31, "0 1 again", x.learn(0, 0, 1), 0);
        Due.is(31, "1 0", x.learn(0, 1, 0), 0);
        Due.is(31, "7 3, which differ in more", x.learn(0, 7, 3), 1);
        Due.is(31, "3 7", x.learn(0, 3, 7), 0);
        Due.is(31, "another child", x.learn(1, 1, 0), 1);
        Due.is(31, "one and the same", x.learn(0, 2, 2), BAD);
        Due.is(31, "no word", x.learn(0, 8, 1), BAD);
        Due.is(31, "no word", x.learn(0, 1, 8), BAD);
        Due.is(31, "no child", x.learn(2, 0, 1), BAD);
        Due.is(32, "pairs", x.childOf(0, 0), 2);
        Due.is(32, "pairs of the other", x.childOf(1, 0), 1);
        for (int n : EXTREMES) {
            Due.is(31, "child " + n, x.learn(n, 0, 1), BAD);
            Due.is(31, "word " + n, x.learn(0, n, 1), BAD);
            Due.is(31, "word " + n, x.learn(0, 0, n), BAD);
        }
        Due.is(32, "none came", x.childOf(0, 0), 2);
    }

    private static void childOf() {
        WhistledWords x = Due.speaking(Due.TONGUE);
        x.child();
        Due.is(32, "confuses", x.childOf(0, 1), 7);
        Due.is(32, "groups", x.childOf(0, 2), 4);
        Due.is(32, "greatest", x.childOf(0, 3), 5);
        int[] least = {0, 0, 0, 3, 0, 5, 0, 7};
        for (int w = 0; w < 8; w++) {
            Due.is(32, "group of " + w, x.childOf(0, 10 + w), least[w]);
        }
        Due.is(32, "no word", x.childOf(0, 18), BAD);
        for (int what = 4; what < 10; what++) {
            Due.is(32, "what " + what, x.childOf(0, what), BAD);
        }
        x.learn(0, 0, 1);
        Due.is(32, "they hang together still", x.childOf(0, 2), 4);
        x.learn(0, 1, 4);
        x.learn(0, 6, 1);
        Due.is(32, "1 is apart", x.childOf(0, 2), 5);
        Due.is(32, "1 is apart", x.childOf(0, 11), 1);
        Due.is(32, "greatest", x.childOf(0, 3), 4);
        Due.is(32, "confuses", x.childOf(0, 1), 4);
        Due.is(32, "learned", x.childOf(0, 0), 3);
        Due.is(32, "no child", x.childOf(1, 0), BAD);
        for (int n : EXTREMES) {
            Due.is(32, "child " + n, x.childOf(n, 0), BAD);
            Due.is(32, "what " + n, x.childOf(0, n), BAD);
        }
    }

    /** A chain hangs together though its ends are not CONFUSED; the same SPEECH differs in no MARK. */
    private static void confusion() {
        WhistledWords x = Due.speaking("high a 1;high b 2;mute m;"
                + "word aaa;word bbb;word aab;word abb;word am;word a;word m;word mm;word b;ask 0,1,2,3;ask 4,5;ask 8,6,4;");
        x.child();
        Due.is(32, "pairs", x.childOf(0, 1), 5);
        Due.is(32, "groups", x.childOf(0, 2), 4);
        Due.is(32, "greatest", x.childOf(0, 3), 4);
        Due.is(32, "the chain's end", x.childOf(0, 11), 0);
        Due.is(32, "b", x.childOf(0, 18), 4);
        Due.is(32, "a hangs with am by b", x.childOf(0, 15), 4);
        Due.is(32, "no MARKS", x.childOf(0, 16), 6);
        Due.is(32, "no MARKS", x.childOf(0, 17), 7);
        Due.is(33, "the chain", x.lessons(0, 0), 3);
        Due.is(33, "the same SPEECH", x.lessons(0, 1), 0);
        Due.is(33, "b and am", x.lessons(0, 2), 1);
        x.learn(0, 2, 3);
        Due.is(32, "the chain is cut", x.childOf(0, 11), 1);
        Due.is(32, "the chain is cut", x.childOf(0, 13), 1);
        Due.is(32, "the chain is cut", x.childOf(0, 12), 0);
        Due.is(33, "the chain is cut", x.lessons(0, 0), 2);
    }

    private static void oneWord() {
        WhistledWords x = Due.speaking("mute m;word m;ask 0;");
        x.child();
        Due.is(32, "one WORD, groups", x.childOf(0, 2), 1);
        Due.is(32, "one WORD, greatest", x.childOf(0, 3), 1);
        Due.is(32, "one WORD, its group", x.childOf(0, 10), 0);
        Due.is(33, "one WORD", x.lessons(0, 0), 0);
    }

    private static void lessons() {
        WhistledWords x = Due.speaking(Due.TONGUE);
        Due.is(33, "no child", x.lessons(0, 0), BAD);
        x.child();
        x.child();
        Due.is(33, "ask 0", x.lessons(0, 0), 2);
        Due.is(33, "ask 1", x.lessons(0, 1), 1);
        x.learn(0, 1, 0);
        Due.is(33, "0 1 learned", x.lessons(0, 0), 1);
        Due.is(33, "not by the other", x.lessons(1, 0), 2);
        x.learn(0, 1, 2);
        Due.is(33, "1 2 are not CONFUSED", x.lessons(0, 0), 1);
        x.learn(0, 0, 2);
        Due.is(33, "all learned", x.lessons(0, 0), 0);
        Due.is(33, "no ask", x.lessons(0, 2), BAD);
        Due.is(33, "no child", x.lessons(2, 0), BAD);
        for (int n : EXTREMES) {
            Due.is(33, "child " + n, x.lessons(n, 0), BAD);
            Due.is(33, "ask " + n, x.lessons(0, n), BAD);
        }
    }

    private static void count() {
        WhistledWords x = Due.speaking(Due.TONGUE);
        x.place(0, 0, 0);
        x.place(0, 0, 0);
        x.place(0, 0, 0);
        x.ridge(0, 0);
        x.call(0, 0, 0, 0, 0, NONE);
        x.call(0, 0, 0, 0, 0, 0);
        x.call(0, 0, 0, 0, 1, NONE);
        x.call(0, 0, 0, 0, 1, NONE);
        x.lie(2, true);
        x.child();
        x.feed(0);
        x.end(5);
        int[] due = {8, 2, 7, 3, 1, 4, 1, 1, 5, NONE};
        for (int what = 0; what < 10; what++) {
            Due.is(34, "count " + what, x.count(what), due[what]);
        }
        x.sheet(0, 2, 33);
        Due.is(34, "cells", x.count(9), 33);
        x.sheet(1, 2, 44);
        Due.is(34, "cells of SHEET 0", x.count(9), 33);
        Due.is(34, "what 10", x.count(10), BAD);
        for (int n : EXTREMES) {
            Due.is(34, "what " + n, x.count(n), BAD);
        }
    }
}
