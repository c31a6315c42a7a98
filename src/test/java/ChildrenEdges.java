/** Boundary cases of CHILDREN and of count: the last of the Terms, and promises 30 to 34. */
final class ChildrenEdges {
    private static final int BAD = -1, STATE = -2, FULL = -3, NONE = -4;
    private static final int[] OUTSIDE = EdgesTest.OUTSIDE;

    private ChildrenEdges() {
    }

    static void run() {
        child();
        learn();
        confuses();
        groups();
        childOf();
        sixteenWords();
        lessons();
        counts();
        counted();
    }

    /** 16 WORDS of one MARK each, HEIGHTS 0 to 15: each two differ in one MARK alone. */
    private static WhistledWords oneMarkWords() {
        StringBuilder text = new StringBuilder();
        for (int h = 0; h < 16; h++) {
            text.append("high ").append((char) ('a' + h)).append(h).append(";word ").append((char) ('a' + h)).append(';');
        }
        WhistledWords x = Due.speaking(text.append("ask 0,1,2,3,4,5,6,7,8,9,10,11,12,13,14,15;ask 15;ask 3,5;").toString());
        x.child();
        return x;
    }

    private static void child() {
        Doc.says(Doc.TERMS, "CHILDREN (4) tell rows apart at BLUR 0; each LEARNS pairs of WORDS (any way round).");
        WhistledWords y = Due.speaking("high a 0;high b 1;word a;word b;ask 0,1;");
        y.child();
        y.child();
        Doc.is("apart at BLUR 0 alone", y.childOf(0, 1), 1);
        Doc.is("a pair", y.learn(0, 1, 0), 1);
        Doc.is("the same, the other way round", y.learn(0, 0, 1), 0);
        Doc.is("each LEARNS its own", y.childOf(1, 0), 0);
        Doc.is("each LEARNS its own", y.childOf(1, 1), 1);
        Doc.says(30, "A CHILD: its number. FULL.");
        WhistledWords x = new WhistledWords();
        for (int c = 0; c < 4; c++) {
            Doc.is("CHILD " + c + " is none yet", x.childOf(c, 0), BAD);
            Doc.is("CHILD " + c, x.child(), c);
            Doc.is("CHILD " + c + " is there", x.childOf(c, 0), 0);
        }
        Doc.is("the 5th", x.child(), FULL);
        Doc.is("the 5th again", x.child(), FULL);
        Doc.is("CHILD 4", x.childOf(4, 0), BAD);
        Doc.is("there are", x.count(7), 4);
    }

    private static void learn() {
        Doc.says(31, "A CHILD LEARNS two WORDS: 1; 0: it had. BAD: also one and the same.");
        WhistledWords x = oneMarkWords();
        Doc.is("the ends", x.learn(0, 0, 15), 1);
        Doc.is("it had", x.learn(0, 0, 15), 0);
        Doc.is("it had, the other way round", x.learn(0, 15, 0), 0);
        Doc.is("neighbours", x.learn(0, 15, 14), 1);
        Doc.is("it had", x.learn(0, 14, 15), 0);
        Doc.is("one and the same", x.learn(0, 0, 0), BAD);
        Doc.is("one and the same", x.learn(0, 15, 15), BAD);
        Doc.is("WORD 16", x.learn(0, 16, 0), BAD);
        Doc.is("WORD 16", x.learn(0, 0, 16), BAD);
        Doc.is("WORD 32", x.learn(0, 0, 32), BAD);
        Doc.is("WORD 33", x.learn(0, 33, 0), BAD);
        Doc.is("CHILD 1", x.learn(1, 0, 1), BAD);
        for (int n : OUTSIDE) {
            Doc.is("CHILD " + n, x.learn(n, 0, 1), BAD);
            Doc.is("WORD " + n, x.learn(0, n, 1), BAD);
            Doc.is("WORD " + n, x.learn(0, 0, n), BAD);
            Doc.is("WORD " + n + " twice", x.learn(0, n, n), BAD);
        }
        Doc.is("two pairs", x.childOf(0, 0), 2);
        for (int c = 1; c < 4; c++) {
            x.child();
        }
        Doc.is("the last CHILD", x.learn(3, 15, 14), 1);
        Doc.is("the last CHILD had", x.learn(3, 14, 15), 0);
        Doc.is("CHILD 4", x.learn(4, 0, 1), BAD);
        Doc.is("the one between did not", x.childOf(2, 0), 0);
        WhistledWords y = Due.speaking("mute m;word m;word mm;word mmm;");
        y.child();
        Doc.is("two that it does not CONFUSE", y.learn(0, 0, 2), 1);
        Doc.is("two that it does not CONFUSE", y.childOf(0, 0), 1);
    }

    private static void confused(String why, String text, int pairs) {
        WhistledWords x = Due.speaking("high a 0;high b 15;stop s 0;stop t 3;glide g;mute m;" + text);
        x.child();
        Doc.is(why + ": " + text, x.childOf(0, 1), pairs);
        x.learn(0, 1, 0);
        Doc.is(why + ", learned: " + text, x.childOf(0, 1), 0);
    }

    private static void confuses() {
        Doc.says(Doc.TERMS, "A CHILD CONFUSES two WORDS, if it did not LEARN them and they differ in one MARK alone (their SPEECH is as long).");
        confused("the one MARK", "word a;word b;", 1);
        confused("the one MARK, stops", "word s;word t;", 1);
        confused("the one MARK, a HEIGHT and a glide", "word a;word g;", 1);
        confused("the first", "word aaa;word baa;", 1);
        confused("the middle one", "word aaa;word asa;", 1);
        confused("the last", "word aaa;word aag;", 1);
        confused("the last of eight", "word aaaaaaaa;word aaaaaaab;", 1);
        confused("the first of eight", "word aaaaaaaa;word taaaaaaa;", 1);
        confused("two of eight", "word aaaaaaaa;word baaaaaab;", 0);
        confused("all of eight", "word aaaaaaaa;word bbbbbbbb;", 0);
        confused("two", "word ab;word ba;", 0);
        confused("none", "word am;word ma;", 0);
        confused("none at all", "word m;word mm;", 0);
        confused("one is longer", "word a;word aa;", 0);
        confused("one is longer", "word a;word ab;", 0);
        confused("one has no MARK", "word m;word a;", 0);
        confused("as long in MARKS, not in letters", "word amm;word b;", 1);
        confused("as long in letters, not in MARKS", "word am;word ab;", 0);
    }

    private static void groups() {
        Doc.says(Doc.TERMS, "GROUPS of a CHILD: WORDS that hang together by what it CONFUSES.");
        int[] order = {0, 15, 1, 14, 2, 13, 3, 12, 4, 11, 5, 10, 6, 9, 7, 8};
        WhistledWords x = oneMarkWords();
        Doc.is("all with all", x.childOf(0, 2), 1);
        for (int i = 0; i < 16; i++) {
            for (int j = i + 2; j < 16; j++) {
                x.learn(0, order[i], order[j]);
            }
        }
        Doc.is("a chain of 16: pairs", x.childOf(0, 1), 15);
        Doc.is("a chain of 16: groups", x.childOf(0, 2), 1);
        Doc.is("a chain of 16: greatest", x.childOf(0, 3), 16);
        for (int w = 0; w < 16; w++) {
            Doc.is("a chain of 16: group of " + w, x.childOf(0, 10 + w), 0);
        }
        x.learn(0, 12, 3);
        Doc.is("7 and 9: groups", x.childOf(0, 2), 2);
        Doc.is("7 and 9: greatest", x.childOf(0, 3), 9);
        for (int i = 0; i < 16; i++) {
            Doc.is("7 and 9: group of " + order[i], x.childOf(0, 10 + order[i]), i < 7 ? 0 : 4);
        }
        WhistledWords y = oneMarkWords();
        for (int v = 1; v < 16; v++) {
            for (int w = 1; w < v; w++) {
                y.learn(0, v, w);
            }
        }
        Doc.is("all hang on WORD 0: pairs", y.childOf(0, 1), 15);
        Doc.is("all hang on WORD 0: groups", y.childOf(0, 2), 1);
        Doc.is("all hang on WORD 0: greatest", y.childOf(0, 3), 16);
        x.learn(0, 0, 15);
        Doc.is("1, 6 and 9", x.childOf(0, 2), 3);
        Doc.is("the one", x.childOf(0, 10), 0);
        Doc.is("the 6", x.childOf(0, 25), 1);
    }

    private static void childOf() {
        Doc.says(32, "Of a CHILD: 0 pairs that it LEARNED, 1 pairs that it CONFUSES, 2 GROUPS, 3 WORDS in the greatest GROUP, "
                + "10 and w: the least WORD of WORD w's GROUP. BAD.");
        WhistledWords none = new WhistledWords();
        none.child();
        for (int what = 0; what < 4; what++) {
            Doc.is("no WORDS, what " + what, none.childOf(0, what), 0);
        }
        Doc.is("no WORDS, what 10", none.childOf(0, 10), BAD);
        WhistledWords one = Due.speaking("mute m;word m;");
        one.child();
        int[] due = {0, 0, 1, 1};
        for (int what = 0; what < 4; what++) {
            Doc.is("one WORD, what " + what, one.childOf(0, what), due[what]);
        }
        Doc.is("one WORD, what 10", one.childOf(0, 10), 0);
        Doc.is("one WORD, what 11", one.childOf(0, 11), BAD);
        WhistledWords x = oneMarkWords();
        for (int what = 4; what < 10; what++) {
            Doc.is("what " + what, x.childOf(0, what), BAD);
        }
        Doc.is("what 25", x.childOf(0, 25), 0);
        Doc.is("what 26", x.childOf(0, 26), BAD);
        Doc.is("CHILD 1", x.childOf(1, 0), BAD);
        Doc.is("CHILD 1", x.childOf(1, 10), BAD);
        for (int n : OUTSIDE) {
            Doc.is("CHILD " + n, x.childOf(n, 0), BAD);
            Doc.is("what " + n, x.childOf(0, n), BAD);
        }
    }

    private static void sixteenWords() {
        WhistledWords x = oneMarkWords();
        Doc.is("16: pairs that it CONFUSES", x.childOf(0, 1), 120);
        Doc.is("16: greatest GROUP", x.childOf(0, 3), 16);
        int learned = 0;
        for (int v = 0; v < 16; v++) {
            for (int w = 0; w < v; w++) {
                learned += x.learn(0, v, w);
            }
        }
        Doc.is("16: learned", learned, 120);
        Doc.is("16: pairs that it LEARNED", x.childOf(0, 0), 120);
        Doc.is("16: pairs that it CONFUSES then", x.childOf(0, 1), 0);
        Doc.is("16: GROUPS then", x.childOf(0, 2), 16);
        Doc.is("16: greatest GROUP then", x.childOf(0, 3), 1);
        for (int w = 0; w < 16; w++) {
            Doc.is("16: group of " + w, x.childOf(0, 10 + w), w);
        }
        Doc.is("16: lessons", x.lessons(0, 0), 0);
    }

    private static void lessons() {
        Doc.says(33, "The fewest pairs that a CHILD is to LEARN so that it CONFUSES no two of an ask's WORDS. BAD.");
        WhistledWords x = oneMarkWords();
        Doc.is("all", x.lessons(0, 0), 120);
        Doc.is("one WORD", x.lessons(0, 1), 0);
        Doc.is("two WORDS", x.lessons(0, 2), 1);
        x.learn(0, 5, 3);
        Doc.is("all, one learned", x.lessons(0, 0), 119);
        Doc.is("two WORDS, learned", x.lessons(0, 2), 0);
        x.child();
        Doc.is("another CHILD", x.lessons(1, 2), 1);
        Doc.is("ask 3", x.lessons(0, 3), BAD);
        Doc.is("CHILD 2", x.lessons(2, 0), BAD);
        Doc.is("NONE is no ask here", x.lessons(0, NONE), BAD);
        for (int n : OUTSIDE) {
            Doc.is("CHILD " + n, x.lessons(n, 0), BAD);
            Doc.is("ask " + n, x.lessons(0, n), BAD);
        }
        WhistledWords y = Due.speaking("high a 0;high b 1;word a;word ab;word b;ask 0,1;");
        y.child();
        Doc.is("others than the ask's do not matter", y.lessons(0, 0), 0);
        WhistledWords z = Due.speaking("high a 0;high b 1;mute m;word a;word am;word b;ask 0,2;ask 0,1;ask 0,1,2;");
        z.child();
        Doc.is("two of three", z.lessons(0, 0), 1);
        Doc.is("the same SPEECH", z.lessons(0, 1), 0);
        Doc.is("all three", z.lessons(0, 2), 2);
    }

    private static void counts() {
        Doc.says(34, "How many: 0 WORDS, 1 ASKS, 2 LETTERS that are told, 3 PLACES, 4 RIDGES, 5 CALLS, 6 FALSE ones (with REPEATS), 7 CHILDREN, "
                + "8 bytes on THE TAPE, 9 CELLS of SHEET 0 (NONE: nothing). BAD.");
        WhistledWords x = new WhistledWords();
        Doc.is("SHEET 0 is nothing", x.count(9), NONE);
        for (int k = 1; k < 4; k++) {
            x.sheet(k, 0, 60);
        }
        Doc.is("SHEET 0 is nothing still", x.count(9), NONE);
        for (int lane = 0; lane < 3; lane++) {
            x.sheet(0, lane, 0);
            Doc.is("no CELLS", x.count(9), 0);
            x.sheet(0, lane, 60);
            Doc.is("60 CELLS", x.count(9), 60);
        }
        StringBuilder letters = new StringBuilder();
        for (char c = 'a'; c <= 'z'; c++) {
            letters.append("mute ").append(c).append(';');
        }
        Doc.is("26 letters", Due.tell(x, letters.toString()), 0);
        Doc.is("26 letters", x.count(2), 26);
        Doc.is("no WORDS", x.count(0), 0);
        Doc.is("what 10", x.count(10), BAD);
        for (int n : OUTSIDE) {
            Doc.is("what " + n, x.count(n), BAD);
        }
    }

    /** All that may be counted, at its most. */
    private static void counted() {
        StringBuilder text = new StringBuilder("mute a;mute b;mute c;mute d;");
        for (int i = 0; i < 16; i++) {
            text.append("word ").append((char) ('a' + i / 4)).append((char) ('a' + i % 4)).append(';');
        }
        WhistledWords x = Due.speaking(text.append("ask 0;ask 1;ask 2;ask 3;ask 4;ask 5;").toString());
        for (int i = 0; i < 12; i++) {
            x.place(0, 0, 0);
            x.ridge(0, 0);
            x.child();
        }
        for (int i = 0; i < 32; i++) {
            x.call(0, 0, 0, 0, 0, i == 0 ? NONE : 0);
        }
        Doc.is("none is FALSE", x.count(6), 0);
        x.lie(0, true);
        for (int i = 0; i < 52; i++) {
            x.feed(i);
        }
        x.sheet(0, 1, 60);
        x.sheet(0, 1, 61);
        int[] due = {16, 6, 4, 10, 6, 30, 30, 4, 400, 60};
        for (int what = 0; what < 10; what++) {
            Doc.is("at its most, what " + what, x.count(what), due[what]);
        }
        Doc.is("STATE", x.tongue(), STATE);
        Doc.is("THE TAPE stays", x.count(8), 400);
        x.lie(0, false);
        Doc.is("none is FALSE any more", x.count(6), 0);
    }
}
