/** Boundary cases of CALLS: the third of the Terms up to the CHILDREN, and promises 23 to 29. */
final class CallsEdges {
    private static final int BAD = -1, STATE = -2, FULL = -3, NONE = -4;
    private static final int[] OUTSIDE = EdgesTest.OUTSIDE;
    /** WORDS 0 to 4 are HEIGHTS 0, 1, 2, 4, 8; WORD 5 sounds like 0. */
    private static final String STEPS = "high a 0;high b 1;high c 2;high d 4;high e 8;mute m;"
            + "word a;word b;word c;word d;word e;word am;ask 0,1,2,3,4;ask 0,4;ask 5,0;ask 3;";

    private CallsEdges() {
    }

    static void run() {
        callsAsTold();
        callBounds();
        callState();
        callFull();
        callOf();
        callOfHearers();
        lie();
        hasByHearing();
        hasTogether();
        has();
        knowsByTime();
        falseCalls();
        knows();
        since();
        spread();
    }

    /** In a calm PLACES 0 to 6 HEAR PLACE 0 at BLURS of 0 to 6, by their numbers; HOUR h brings WIND h - 2. */
    private static WhistledWords row() {
        WhistledWords x = Due.speaking(STEPS);
        x.sheet(0, 0, 24);
        for (int h = 0; h < 5; h++) {
            x.lay(0, h, h - 2);
        }
        for (int d = 0; d < 7; d++) {
            x.place(Math.min(99, d * 20), Math.max(0, d * 20 - 99), 50);
        }
        return x;
    }

    private static final int CALM = 2;

    private static void callsAsTold() {
        Doc.says(Doc.TERMS, "CALLS (30) are numbered as they come, never of a DAY (0 to 99) and HOUR ahead of the latest one: from a PLACE, of an ask, "
                + "a WORD that fits it; a REPEAT of an earlier CALL (of the same PLACE, ask and WORD, not a REPEAT itself), or none.");
        WhistledWords x = row();
        Doc.is("a REPEAT of none", x.call(0, 0, 0, 0, 0, 0), BAD);
        Doc.is("the first, at the first time", x.call(0, 0, 0, 0, 0, NONE), 0);
        Doc.is("a REPEAT of itself", x.call(0, 0, 0, 0, 0, 1), BAD);
        Doc.is("of the same time", x.call(0, 0, 0, 0, 0, 0), 1);
        Doc.is("another REPEAT of the first", x.call(0, 0, 0, 0, 0, 0), 2);
        Doc.is("a REPEAT of a REPEAT", x.call(0, 0, 0, 0, 0, 1), BAD);
        Doc.is("a REPEAT of a REPEAT", x.call(0, 0, 0, 0, 0, 2), BAD);
        Doc.is("of another PLACE", x.call(0, 0, 1, 0, 0, 0), BAD);
        Doc.is("of another ask", x.call(0, 0, 0, 1, 0, 0), BAD);
        Doc.is("of another WORD", x.call(0, 0, 0, 0, 1, 0), BAD);
        Doc.is("the same again, no REPEAT", x.call(0, 0, 0, 0, 0, NONE), 3);
        Doc.is("a REPEAT of that", x.call(0, 1, 0, 0, 0, 3), 4);
        Doc.is("of the other", x.callOf(4, 5), 3);
        Doc.is("the next DAY, the first HOUR", x.call(1, 0, 6, 3, 3, NONE), 5);
        Doc.is("the last time", x.call(99, 23, 0, 0, 0, 0), 6);
        Doc.is("the last time again", x.call(99, 23, 0, 0, 0, 0), 7);
        Doc.is("ahead of it", x.call(99, 22, 0, 0, 0, 0), STATE);
        Doc.is("there are", x.count(5), 8);
    }

    private static void callBounds() {
        Doc.says(23, "A CALL: its number. BAD: also the WORD does not fit, repeat is no CALL as told (NONE: none);");
        WhistledWords x = row();
        Doc.is("the first", x.call(0, 0, 0, 1, 4, NONE), 0);
        Doc.is("DAY 100", x.call(100, 0, 0, 0, 0, NONE), BAD);
        Doc.is("HOUR 24", x.call(0, 24, 0, 0, 0, NONE), BAD);
        Doc.is("PLACE 7", x.call(0, 0, 7, 0, 0, NONE), BAD);
        Doc.is("ask 4", x.call(0, 0, 0, 4, 0, NONE), BAD);
        Doc.is("WORD 6", x.call(0, 0, 0, 0, 6, NONE), BAD);
        Doc.is("WORD 32", x.call(0, 0, 0, 0, 32, NONE), BAD);
        Doc.is("WORD 5 does not fit ask 0", x.call(0, 0, 0, 0, 5, NONE), BAD);
        Doc.is("WORD 1 does not fit ask 1", x.call(0, 0, 0, 1, 1, NONE), BAD);
        Doc.is("repeat 1", x.call(0, 0, 0, 1, 4, 1), BAD);
        Doc.is("repeat 29", x.call(0, 0, 0, 1, 4, 29), BAD);
        Doc.is("repeat 30", x.call(0, 0, 0, 1, 4, 30), BAD);
        for (int n : OUTSIDE) {
            Doc.is("DAY " + n, x.call(n, 0, 0, 0, 0, NONE), BAD);
            Doc.is("HOUR " + n, x.call(0, n, 0, 0, 0, NONE), BAD);
            Doc.is("PLACE " + n, x.call(0, 0, n, 0, 0, NONE), BAD);
            Doc.is("ask " + n, x.call(0, 0, 0, n, 0, NONE), BAD);
            Doc.is("WORD " + n, x.call(0, 0, 0, 0, n, NONE), BAD);
            Doc.is("repeat " + n, x.call(0, 0, 0, 1, 4, n), BAD);
        }
        Doc.is("none came", x.count(5), 1);
        Doc.is("the next", x.call(0, 0, 0, 1, 4, 0), 1);
        WhistledWords y = Due.speaking("mute m;word m;");
        y.place(0, 0, 0);
        Doc.is("no ask at all", y.call(0, 0, 0, 0, 0, NONE), BAD);
    }

    private static void callState() {
        Doc.says(23, "STATE: DAY and HOUR are ahead of the latest CALL; FULL.");
        WhistledWords x = row();
        x.call(5, 5, 0, 0, 0, NONE);
        Doc.is("ahead of the only one", x.call(5, 4, 0, 0, 0, NONE), STATE);
        Doc.is("ahead of the only one", x.call(4, 23, 0, 0, 0, 0), STATE);
        x.call(7, 9, 1, 0, 0, NONE);
        Doc.is("an HOUR ahead", x.call(7, 8, 0, 0, 0, NONE), STATE);
        Doc.is("a DAY ahead, a later HOUR", x.call(6, 23, 0, 0, 0, NONE), STATE);
        Doc.is("of the first one's time", x.call(5, 5, 0, 0, 0, NONE), STATE);
        Doc.is("a REPEAT ahead", x.call(7, 8, 0, 0, 0, 0), STATE);
        Doc.is("the first time", x.call(0, 0, 0, 0, 0, NONE), STATE);
        Doc.is("BAD ahead of STATE: fit", x.call(7, 8, 0, 0, 5, NONE), BAD);
        Doc.is("BAD ahead of STATE: repeat", x.call(7, 8, 0, 0, 0, 1), BAD);
        Doc.is("BAD ahead of STATE: HOUR", x.call(6, 24, 0, 0, 0, NONE), BAD);
        Doc.is("none came", x.count(5), 2);
        Doc.is("of that time", x.call(7, 9, 0, 0, 0, NONE), 2);
        Doc.is("a later DAY, an earlier HOUR", x.call(8, 0, 0, 0, 0, NONE), 3);
        Doc.is("ahead of that", x.call(7, 23, 0, 0, 0, NONE), STATE);
        x.lie(3, true);
        Doc.is("ahead of that, though FALSE", x.call(7, 23, 0, 0, 0, NONE), STATE);
    }

    private static void callFull() {
        WhistledWords x = row();
        for (int c = 0; c < 30; c++) {
            Doc.is("CALL " + c, x.call(3, 3, 0, 0, 0, c % 2 == 0 ? NONE : c - 1), c);
        }
        Doc.is("the 31st", x.call(3, 3, 0, 0, 0, NONE), FULL);
        Doc.is("the 31st, a REPEAT", x.call(3, 3, 0, 0, 0, 28), FULL);
        Doc.is("the 31st, later", x.call(99, 23, 0, 0, 0, NONE), FULL);
        Doc.is("STATE ahead of FULL", x.call(3, 2, 0, 0, 0, NONE), STATE);
        Doc.is("BAD ahead of FULL", x.call(3, 3, 0, 0, 5, NONE), BAD);
        Doc.is("BAD ahead of FULL", x.call(3, 3, 0, 0, 0, 29), BAD);
        Doc.is("BAD ahead of FULL", x.call(3, 3, 0, 0, 0, 30), BAD);
        Doc.is("there are", x.count(5), 30);
        Doc.is("the last", x.callOf(29, 5), 28);
        Doc.is("no other", x.callOf(30, 0), BAD);
        x.lie(28, true);
        Doc.is("FULL, though some are FALSE", x.call(3, 3, 0, 0, 0, NONE), FULL);
        Doc.is("FALSE ones", x.count(6), 2);
    }

    private static void callOf() {
        Doc.says(24, "Of a CALL: 0 DAY, 1 HOUR, 2 from, 3 ask, 4 WORD, 5 of which it is a REPEAT (NONE), 6 whether it is FALSE (also one whose first is),");
        WhistledWords x = row();
        x.call(0, 0, 0, 0, 0, NONE);
        x.call(0, 23, 6, 3, 3, NONE);
        x.call(1, 0, 6, 3, 3, 1);
        x.call(99, 23, 0, 0, 0, 0);
        int[][] due = {{0, 0, 0, 0, 0, NONE, 0}, {0, 23, 6, 3, 3, NONE, 0}, {1, 0, 6, 3, 3, 1, 0}, {99, 23, 0, 0, 0, 0, 0}};
        for (int c = 0; c < 4; c++) {
            for (int what = 0; what < 7; what++) {
                Doc.is("CALL " + c + " " + what, x.callOf(c, what), due[c][what]);
            }
        }
        x.lie(1, true);
        Doc.is("not FALSE", x.callOf(0, 6), 0);
        Doc.is("FALSE", x.callOf(1, 6), 1);
        Doc.is("its first is", x.callOf(2, 6), 1);
        Doc.is("its first is not", x.callOf(3, 6), 0);
        x.lie(1, false);
        Doc.is("its first is no more", x.callOf(2, 6), 0);
        Doc.is("CALL 4", x.callOf(4, 0), BAD);
        Doc.is("what 9", x.callOf(0, 9), BAD);
        Doc.is("what 10", x.callOf(0, 10), BAD);
        for (int n : OUTSIDE) {
            Doc.is("CALL " + n, x.callOf(n, 0), BAD);
            Doc.is("what " + n, x.callOf(0, n), BAD);
        }
    }

    private static void callOfHearers() {
        Doc.says(24, "7 how many other PLACES HEAR it, 8 how many of these are SURE by it alone. BAD.");
        WhistledWords x = row();
        x.call(0, CALM, 0, 0, 0, NONE);
        x.call(0, CALM, 0, 0, 0, 0);
        x.call(0, CALM, 0, 1, 0, NONE);
        x.call(0, CALM, 0, 2, 0, NONE);
        x.call(0, CALM, 0, 3, 3, NONE);
        x.call(0, 3, 0, 1, 4, NONE);
        x.call(0, 4, 0, 1, 4, NONE);
        x.call(1, 0, 0, 1, 4, NONE);
        x.call(1, 0, 6, 1, 4, NONE);
        // At BLUR 0 WORD 0 is SURE for ask 0, at 3 for ask 1, never for ask 2; ask 3 has one WORD.
        int[] heard = {5, 5, 5, 5, 5, 6, 6, 3, 6};
        int[] sure = {0, 0, 3, 0, 5, 4, 5, 1, 5};
        for (int c = 0; c < 9; c++) {
            Doc.is("HEARD, CALL " + c, x.callOf(c, 7), heard[c]);
            Doc.is("SURE, CALL " + c, x.callOf(c, 8), sure[c]);
        }
        x.call(1, CALM, 1, 0, 0, NONE);
        x.call(1, CALM, 1, 1, 0, NONE);
        Doc.is("of another PLACE, at 1, 1, 2, 3, 4, 5", x.callOf(9, 7), 6);
        Doc.is("of another PLACE, none at 0", x.callOf(9, 8), 0);
        Doc.is("of another PLACE, PLACE 0 is SURE too", x.callOf(10, 8), 4);
        x.place(0, 0, 50);
        Doc.is("one more HEARS", x.callOf(0, 7), 6);
        Doc.is("at BLUR 0 it is SURE", x.callOf(0, 8), 1);
        WhistledWords y = Due.speaking(STEPS);
        y.place(0, 0, 0);
        y.call(0, 0, 0, 0, 0, NONE);
        Doc.is("no other PLACE", y.callOf(0, 7), 0);
        Doc.is("no other PLACE", y.callOf(0, 8), 0);
        y.place(0, 0, 0);
        Doc.is("UNKNOWN WIND", y.callOf(0, 7), 1);
        Doc.is("UNKNOWN WIND", y.callOf(0, 8), 0);
    }

    private static void lie() {
        Doc.says(Doc.TERMS, "A CALL may be told to be FALSE later.");
        Doc.says(25, "A CALL (no REPEAT) is FALSE, or not: whether it was (1, 0). BAD; STATE: it is a REPEAT.");
        WhistledWords x = row();
        Doc.is("no CALL", x.lie(0, true), BAD);
        Doc.is("no CALL", x.lie(0, false), BAD);
        x.call(0, 0, 0, 0, 0, NONE);
        x.call(0, 0, 0, 0, 0, 0);
        Doc.is("it was not, and is not", x.lie(0, false), 0);
        Doc.is("it was not", x.lie(0, true), 0);
        Doc.is("it was", x.lie(0, true), 1);
        Doc.is("it was", x.lie(0, false), 1);
        Doc.is("it was not", x.lie(0, false), 0);
        Doc.is("a REPEAT", x.lie(1, true), STATE);
        Doc.is("a REPEAT", x.lie(1, false), STATE);
        Doc.is("none is FALSE", x.count(6), 0);
        x.lie(0, true);
        Doc.is("a REPEAT of a FALSE one", x.lie(1, false), STATE);
        Doc.is("both are", x.count(6), 2);
        Doc.is("a REPEAT of a FALSE one may come", x.call(0, 0, 0, 0, 0, 0), 2);
        Doc.is("it is FALSE too", x.callOf(2, 6), 1);
        Doc.is("CALL 3", x.lie(3, true), BAD);
        for (int n : OUTSIDE) {
            Doc.is("CALL " + n, x.lie(n, true), BAD);
            Doc.is("CALL " + n, x.lie(n, false), BAD);
        }
    }

    private static void hasByHearing() {
        Doc.says(Doc.TERMS, "A PLACE HAS from a CALL what its row MEANS for the ask by the BLUR from there in that HOUR, if it HEARS;");
        WhistledWords x = row();
        x.place(0, 0, 50);
        x.call(0, CALM, 0, 0, 0, NONE);
        x.call(1, 0, 0, 0, 0, NONE);
        x.call(2, 4, 0, 0, 0, NONE);
        x.call(3, CALM, 0, 2, 5, NONE);
        int[][] due = {{NONE, 3, 7, 15, 31, 31, NONE, 1}, {NONE, 15, 31, 31, NONE, NONE, NONE, 1},
            {NONE, 1, 1, 3, 7, 15, 31, 1}, {NONE, 33, 33, 33, 33, 33, NONE, 33}};
        for (int p = 0; p < 8; p++) {
            for (int c = 0; c < 4; c++) {
                Doc.is("PLACE " + p + ", CALL " + c, x.has(p, c, 99, 23), due[c][p]);
            }
        }
    }

    private static void hasTogether() {
        Doc.says(Doc.TERMS, "from the CALL and its REPEATS up to a time together: the WORDS that are in all that it HAS.");
        WhistledWords x = row();
        x.call(0, 0, 0, 0, 0, NONE);
        x.call(0, 1, 0, 0, 0, 0);
        x.call(0, 2, 0, 0, 0, NONE);
        x.call(0, 3, 0, 0, 0, 0);
        x.call(1, 0, 0, 0, 0, 0);
        x.call(1, 4, 0, 0, 0, 0);
        // To PLACE 4 the CALL has a BLUR of 6, its REPEATS of 5, 3, 6 and 2: it HEARS three of them.
        int[][] times = {{0, 0}, {0, 1}, {0, 2}, {0, 3}, {0, 23}, {1, 0}, {1, 3}, {1, 4}, {99, 23}};
        int[] four = {NONE, 31, 31, 15, 15, 15, 15, 7, 7};
        int[] one = {15, 7, 7, 1, 1, 1, 1, 1, 1};
        int[] six = {NONE, NONE, NONE, 31, 31, 31, 31, 31, 31};
        for (int i = 0; i < times.length; i++) {
            String when = "by " + times[i][0] + " " + times[i][1];
            Doc.is("PLACE 4 " + when, x.has(4, 0, times[i][0], times[i][1]), four[i]);
            Doc.is("PLACE 1 " + when, x.has(1, 0, times[i][0], times[i][1]), one[i]);
            Doc.is("PLACE 6 " + when, x.has(6, 0, times[i][0], times[i][1]), six[i]);
        }
        Doc.is("the other CALL alone", x.has(4, 2, 99, 23), 31);
        Doc.is("the other CALL alone", x.has(1, 2, 99, 23), 3);
        Doc.is("the other CALL, ahead of it", x.has(1, 2, 0, 1), NONE);
    }

    private static void has() {
        Doc.says(26, "What a PLACE HAS from a CALL (a first one with its REPEATS) up to a time: WORDS (bits).");
        WhistledWords x = row();
        x.call(1, CALM, 0, 0, 0, NONE);
        x.call(1, 3, 0, 0, 0, 0);
        Doc.is("up to that HOUR, that one too", x.has(1, 0, 1, CALM), 3);
        Doc.is("with its REPEAT, that one too", x.has(1, 0, 1, 3), 1);
        Doc.is("the last time", x.has(1, 0, 99, 23), 1);
        Doc.says(26, "BAD; STATE: it is a REPEAT; NONE: it HEARS none of them by then (or it is of that PLACE).");
        Doc.is("an HOUR ahead", x.has(1, 0, 1, CALM - 1), NONE);
        Doc.is("a DAY ahead", x.has(1, 0, 0, 23), NONE);
        Doc.is("it HEARS the REPEAT alone", x.has(6, 0, 1, 3), 31);
        Doc.is("it HEARS none by then", x.has(6, 0, 1, CALM), NONE);
        Doc.is("it is of that PLACE", x.has(0, 0, 99, 23), NONE);
        Doc.is("a REPEAT", x.has(1, 1, 99, 23), STATE);
        Doc.is("a REPEAT, of that PLACE", x.has(0, 1, 99, 23), STATE);
        Doc.is("STATE ahead of NONE", x.has(6, 1, 0, 0), STATE);
        Doc.is("PLACE 7", x.has(7, 0, 1, 3), BAD);
        Doc.is("CALL 2", x.has(1, 2, 1, 3), BAD);
        Doc.is("DAY 100", x.has(1, 0, 100, 0), BAD);
        Doc.is("HOUR 24", x.has(1, 0, 1, 24), BAD);
        Doc.is("BAD ahead of STATE: PLACE", x.has(7, 1, 1, 3), BAD);
        Doc.is("BAD ahead of STATE: HOUR", x.has(1, 1, 1, 24), BAD);
        Doc.is("BAD ahead of NONE: DAY", x.has(0, 0, 100, 0), BAD);
        for (int n : OUTSIDE) {
            Doc.is("PLACE " + n, x.has(n, 0, 1, 3), BAD);
            Doc.is("CALL " + n, x.has(1, n, 1, 3), BAD);
            Doc.is("DAY " + n, x.has(1, 0, n, 3), BAD);
            Doc.is("HOUR " + n, x.has(1, 0, 1, n), BAD);
        }
        x.lie(0, true);
        Doc.is("what it HAS from a FALSE one", x.has(1, 0, 99, 23), 1);
    }

    private static void knowsByTime() {
        Doc.says(Doc.TERMS, "It KNOWS a WORD for an ask by a time (a DAY and an HOUR, that one too): it said so itself in a CALL up to then, "
                + "or it HAS that WORD alone from a CALL that is no REPEAT, with its REPEATS, up to then.");
        WhistledWords x = row();
        x.call(1, 1, 0, 0, 0, NONE);
        x.call(1, 2, 0, 1, 0, NONE);
        x.call(2, 3, 0, 0, 0, 0);
        int[][] times = {{0, 0}, {0, 23}, {1, 0}, {1, 1}, {1, 2}, {1, 23}, {2, 2}, {2, 3}, {99, 23}};
        int[] zero = {0, 0, 0, 1, 1, 1, 1, 1, 1};
        int[] oneForAskOne = {0, 0, 0, 0, 1, 1, 1, 1, 1};
        int[] one = {0, 0, 0, 0, 0, 0, 0, 1, 1};
        for (int i = 0; i < times.length; i++) {
            String when = " by " + times[i][0] + " " + times[i][1];
            Doc.is("it said so itself" + when, x.knows(0, 0, times[i][0], times[i][1]), zero[i]);
            Doc.is("it HAS one WORD alone" + when, x.knows(1, 1, times[i][0], times[i][1]), oneForAskOne[i]);
            Doc.is("it HAS one WORD alone, by a REPEAT" + when, x.knows(1, 0, times[i][0], times[i][1]), one[i]);
            Doc.is("it HAS several" + when, x.knows(2, 0, times[i][0], times[i][1]), 0);
            Doc.is("it HEARS none" + when, x.knows(6, 1, times[i][0], times[i][1]), 0);
        }
        Doc.is("BLUR 3, SURE", x.knows(3, 1, 99, 23), 1);
        Doc.is("BLUR 4, not SURE", x.knows(4, 1, 99, 23), 0);
        saidItself();
    }

    private static void saidItself() {
        WhistledWords x = row();
        x.place(0, 0, 50);
        x.call(0, CALM, 1, 2, 0, NONE);
        x.call(0, CALM, 7, 2, 0, NONE);
        Doc.is("WORDS of one SPEECH are never known by hearing", x.knows(0, 2, 99, 23), 0);
        Doc.is("who says one KNOWS it", x.knows(1, 2, 99, 23), 1);
        x.call(0, 4, 1, 2, 5, NONE);
        Doc.is("who says both KNOWS both", x.knows(1, 2, 99, 23), 33);
        Doc.is("who says one KNOWS one", x.knows(7, 2, 99, 23), 1);
        Doc.is("a PLACE that said nothing", x.knows(2, 2, 99, 23), 0);
    }

    private static void falseCalls() {
        Doc.says(Doc.TERMS, "(A FALSE CALL and its REPEATS do not count.)");
        WhistledWords x = row();
        x.call(0, 0, 0, 0, 0, NONE);
        x.call(0, 4, 0, 0, 0, 0);
        x.call(1, 4, 0, 0, 0, NONE);
        Doc.is("by the REPEAT", x.knows(1, 0, 0, 4), 1);
        Doc.is("since the REPEAT", x.since(1, 0, 0), 1);
        x.lie(0, true);
        Doc.is("its REPEAT does not count", x.knows(1, 0, 0, 4), 0);
        Doc.is("what it said itself does not count", x.knows(0, 0, 0, 4), 0);
        Doc.is("another CALL counts", x.knows(0, 0, 1, 4), 1);
        Doc.is("another CALL counts", x.knows(1, 0, 1, 4), 1);
        Doc.is("since another CALL", x.since(1, 0, 0), 2);
        Doc.is("since another CALL", x.since(0, 0, 0), 2);
        Doc.is("spread", x.spread(0, 0, 0, 4, 0), 0);
        Doc.is("spread", x.spread(0, 0, 1, 4, 1), 7);
        x.lie(2, true);
        Doc.is("all are FALSE", x.since(0, 0, 0), NONE);
        Doc.is("all are FALSE", x.spread(0, 0, 99, 23, 0), 0);
        x.lie(0, false);
        Doc.is("not FALSE any more", x.since(1, 0, 0), 1);
        Doc.is("not FALSE any more", x.knows(0, 0, 0, 0), 1);
    }

    private static void knows() {
        Doc.says(27, "What a PLACE KNOWS for an ask by a time: WORDS (bits). BAD.");
        WhistledWords x = row();
        Doc.is("no CALL", x.knows(0, 0, 99, 23), 0);
        for (int w = 0; w < 5; w++) {
            x.call(w, 0, 0, 0, w, NONE);
        }
        for (int day = 0; day < 5; day++) {
            Doc.is("DAY " + day, x.knows(0, 0, day, 0), (2 << day) - 1);
        }
        Doc.is("for another ask", x.knows(0, 1, 99, 23), 0);
        Doc.is("PLACE 7", x.knows(7, 0, 0, 0), BAD);
        Doc.is("ask 4", x.knows(0, 4, 0, 0), BAD);
        Doc.is("DAY 100", x.knows(0, 0, 100, 0), BAD);
        Doc.is("HOUR 24", x.knows(0, 0, 0, 24), BAD);
        for (int n : OUTSIDE) {
            Doc.is("PLACE " + n, x.knows(n, 0, 0, 0), BAD);
            Doc.is("ask " + n, x.knows(0, n, 0, 0), BAD);
            Doc.is("DAY " + n, x.knows(0, 0, n, 0), BAD);
            Doc.is("HOUR " + n, x.knows(0, 0, 0, n), BAD);
        }
    }

    private static void since() {
        Doc.says(28, "The least CALL so that a PLACE KNOWS a WORD for an ask by CALLS up to that number alone.");
        WhistledWords x = row();
        Doc.is("no CALL", x.since(0, 0, 0), NONE);
        x.call(0, 0, 0, 0, 0, NONE);
        x.call(0, 0, 1, 1, 4, NONE);
        x.call(0, 3, 0, 0, 0, 0);
        x.call(0, 3, 1, 0, 0, NONE);
        x.call(0, 3, 0, 0, 0, 0);
        Doc.is("it said so, the first CALL", x.since(0, 0, 0), 0);
        Doc.is("by the REPEAT, not by that of the same time", x.since(1, 0, 0), 2);
        Doc.is("by none that it HEARS at 1", x.since(3, 0, 0), NONE);
        Doc.is("by another PLACE's CALL", x.since(2, 0, 0), 3);
        Doc.is("for another ask", x.since(1, 1, 4), 1);
        Doc.is("for another ask, by hearing", x.since(0, 1, 4), 1);
        Doc.says(28, "BAD: also it does not fit; NONE.");
        Doc.is("nobody said so", x.since(1, 0, 3), NONE);
        Doc.is("another ask's", x.since(1, 1, 0), NONE);
        Doc.is("it does not fit", x.since(1, 1, 1), BAD);
        Doc.is("it does not fit, nor is there a PLACE", x.since(7, 1, 1), BAD);
        Doc.is("PLACE 7", x.since(7, 0, 0), BAD);
        Doc.is("ask 4", x.since(0, 4, 0), BAD);
        Doc.is("WORD 6", x.since(0, 0, 6), BAD);
        Doc.is("WORD 32", x.since(0, 0, 32), BAD);
        for (int n : OUTSIDE) {
            Doc.is("PLACE " + n, x.since(n, 0, 0), BAD);
            Doc.is("ask " + n, x.since(0, n, 0), BAD);
            Doc.is("WORD " + n, x.since(0, 0, n), BAD);
        }
        WhistledWords y = row();
        for (int c = 0; c < 29; c++) {
            y.call(0, 0, 0, 0, 0, NONE);
        }
        y.call(0, 0, 0, 0, 1, NONE);
        Doc.is("the last of 30", y.since(0, 0, 1), 29);
        Doc.is("the first of 30", y.since(0, 0, 0), 0);
    }

    private static void spread() {
        Doc.says(29, "How many PLACES KNOW a WORD for an ask by a time (what 0), those (bits, 1).");
        WhistledWords none = Due.speaking(STEPS);
        Doc.is("no PLACES", none.spread(0, 0, 0, 0, 0), 0);
        Doc.is("no PLACES", none.spread(0, 0, 99, 23, 1), 0);
        WhistledWords x = row();
        Doc.is("no CALLS", x.spread(0, 0, 99, 23, 0), 0);
        x.call(1, 1, 0, 1, 0, NONE);
        x.call(1, 3, 6, 1, 0, NONE);
        x.call(2, 4, 0, 1, 4, NONE);
        Doc.is("ahead of it", x.spread(1, 0, 1, 0, 0), 0);
        Doc.is("that HOUR too", x.spread(1, 0, 1, 1, 1), 7);
        Doc.is("that HOUR too", x.spread(1, 0, 1, 1, 0), 3);
        Doc.is("until the next", x.spread(1, 0, 1, 2, 1), 7);
        Doc.is("with the next", x.spread(1, 0, 1, 3, 1), 119);
        Doc.is("another WORD", x.spread(1, 4, 2, 3, 1), 0);
        Doc.is("another WORD", x.spread(1, 4, 2, 4, 1), 63);
        Doc.is("another ask", x.spread(0, 0, 99, 23, 0), 0);
        Doc.says(29, "BAD: also it does not fit.");
        Doc.is("it does not fit", x.spread(1, 1, 99, 23, 0), BAD);
        Doc.is("ask 4", x.spread(4, 0, 0, 0, 0), BAD);
        Doc.is("WORD 6", x.spread(0, 6, 0, 0, 0), BAD);
        Doc.is("WORD 32", x.spread(0, 32, 0, 0, 0), BAD);
        Doc.is("DAY 100", x.spread(0, 0, 100, 0, 0), BAD);
        Doc.is("HOUR 24", x.spread(0, 0, 0, 24, 0), BAD);
        Doc.is("what 2", x.spread(0, 0, 0, 0, 2), BAD);
        for (int n : OUTSIDE) {
            Doc.is("ask " + n, x.spread(n, 0, 0, 0, 0), BAD);
            Doc.is("WORD " + n, x.spread(0, n, 0, 0, 0), BAD);
            Doc.is("DAY " + n, x.spread(0, 0, n, 0, 0), BAD);
            Doc.is("HOUR " + n, x.spread(0, 0, 0, n, 0), BAD);
            Doc.is("what " + n, x.spread(0, 0, 0, 0, n), BAD);
        }
    }
}
