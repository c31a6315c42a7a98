/** Promises 23 to 29. */
public final class CallsTest {
    private static final int BAD = -1, STATE = -2, FULL = -3, NONE = -4;
    private static final int[] EXTREMES = {Integer.MIN_VALUE, Integer.MIN_VALUE + 9, -5, -3, -2, -1, 100, Integer.MAX_VALUE};

    public static void main(String[] args) {
        call();
        callFull();
        callOf();
        lie();
        has();
        knows();
        sinceAndSpread();
        twoAsks();
        Due.finish();
    }

    /** PLACES 0 to 3 with BLURS of 1, 2, 3 from PLACE 0 in a calm hour; hour 1 brings PLACES 1 to 3 nearer by 1, hour 2 by 2, hour 3 further by 2. */
    private static WhistledWords gorge() {
        WhistledWords x = Due.speaking(Due.TONGUE);
        x.place(0, 0, 50);
        x.place(20, 0, 50);
        x.place(40, 0, 50);
        x.place(60, 0, 50);
        x.sheet(0, 0, 24);
        x.lay(0, 1, 1);
        x.lay(0, 2, 2);
        x.lay(0, 3, -2);
        return x;
    }

    private static void call() {
        WhistledWords x = gorge();
        Due.is(23, "first", x.call(3, 5, 0, 0, 0, NONE), 0);
        Due.is(23, "ahead of the first", x.call(3, 4, 0, 0, 0, NONE), STATE);
        Due.is(23, "same time", x.call(3, 5, 0, 0, 0, 0), 1);
        Due.is(23, "a repeat of a repeat", x.call(3, 5, 0, 0, 0, 1), BAD);
        Due.is(23, "of another place", x.call(3, 5, 1, 0, 0, 0), BAD);
        Due.is(23, "of another word", x.call(3, 5, 0, 0, 1, 0), BAD);
        Due.is(23, "of no call", x.call(3, 5, 0, 0, 0, 2), BAD);
        Due.is(23, "of -1", x.call(3, 5, 0, 0, 0, -1), BAD);
        Due.is(23, "an hour ahead", x.call(3, 4, 0, 0, 0, NONE), STATE);
        Due.is(23, "a day ahead", x.call(2, 23, 0, 0, 0, NONE), STATE);
        Due.is(23, "BAD ahead of STATE", x.call(2, 23, 0, 0, 3, NONE), BAD);
        Due.is(23, "BAD ahead of STATE", x.call(2, 23, 0, 0, 0, 9), BAD);
        Due.is(23, "a day later, an earlier hour", x.call(4, 0, 0, 1, 3, NONE), 2);
        Due.is(23, "does not fit", x.call(4, 0, 0, 0, 3, NONE), BAD);
        Due.is(23, "in no ask", x.call(4, 0, 0, 0, 7, NONE), BAD);
        Due.is(23, "no place", x.call(4, 0, 4, 0, 0, NONE), BAD);
        Due.is(23, "no ask", x.call(4, 0, 0, 2, 0, NONE), BAD);
        Due.is(23, "no word", x.call(4, 0, 0, 0, 8, NONE), BAD);
        Due.is(23, "hour 24", x.call(4, 24, 0, 0, 0, NONE), BAD);
        Due.is(23, "day 100", x.call(100, 0, 0, 0, 0, NONE), BAD);
        for (int n : EXTREMES) {
            Due.is(23, "day " + n, x.call(n, 0, 0, 0, 0, NONE), BAD);
            Due.is(23, "hour " + n, x.call(4, n, 0, 0, 0, NONE), BAD);
            Due.is(23, "from " + n, x.call(4, 0, n, 0, 0, NONE), BAD);
            Due.is(23, "ask " + n, x.call(4, 0, 0, n, 0, NONE), BAD);
            Due.is(23, "word " + n, x.call(4, 0, 0, 0, n, NONE), BAD);
            Due.is(23, "repeat " + n, x.call(4, 0, 0, 0, 0, n), BAD);
        }
        Due.is(34, "three came", x.count(5), 3);
        Due.is(23, "the last time", x.call(99, 23, 0, 0, 0, 0), 3);
    }

    private static void callFull() {
        WhistledWords x = gorge();
        for (int i = 0; i < 30; i++) {
            Due.is(23, "call " + i, x.call(1, 1, i % 4, 0, i % 3, NONE), i);
        }
        Due.is(23, "the 31st", x.call(1, 1, 0, 0, 0, NONE), FULL);
        Due.is(23, "STATE ahead of FULL", x.call(1, 0, 0, 0, 0, NONE), STATE);
        Due.is(23, "BAD ahead of FULL", x.call(1, 1, 0, 0, 0, 1), BAD);
        Due.is(34, "calls", x.count(5), 30);
        Due.is(27, "all of them", x.knows(0, 0, 1, 1), 7);
        Due.is(28, "none of them", x.since(0, 1, 3), NONE);
        Due.is(24, "the last", x.callOf(29, 4), 2);
        Due.is(24, "beyond the last", x.callOf(30, 4), BAD);
    }

    private static void callOf() {
        WhistledWords x = gorge();
        x.call(7, 1, 0, 0, 0, NONE);
        x.call(8, 0, 0, 0, 0, 0);
        x.call(8, 3, 3, 1, 6, NONE);
        int[][] due = {{7, 1, 0, 0, 0, NONE, 0, 3, 2}, {8, 0, 0, 0, 0, 0, 0, 3, 1}, {8, 3, 3, 1, 6, NONE, 0, 3, 2}};
        for (int c = 0; c < 3; c++) {
            for (int what = 0; what < 9; what++) {
                Due.is(24, "call " + c + ", " + what, x.callOf(c, what), due[c][what]);
            }
        }
        x.lie(0, true);
        Due.is(24, "FALSE", x.callOf(0, 6), 1);
        Due.is(24, "its repeat", x.callOf(1, 6), 1);
        Due.is(24, "another", x.callOf(2, 6), 0);
        Due.is(24, "it is heard still", x.callOf(0, 7), 3);
        x.call(8, 4, 1, 0, 0, NONE);
        Due.is(24, "PLACES 0 and 2 are SURE", x.callOf(3, 8), 2);
        x.place(99, 99, 50);
        Due.is(24, "another place, too far", x.callOf(0, 7), 3);
        x.place(0, 0, 50);
        Due.is(24, "another place, near", x.callOf(0, 7), 4);
        Due.is(24, "another place, near", x.callOf(0, 8), 3);
        Due.is(24, "no call", x.callOf(4, 0), BAD);
        Due.is(24, "what 9", x.callOf(0, 9), BAD);
        for (int n : EXTREMES) {
            Due.is(24, "call " + n, x.callOf(n, 0), BAD);
            Due.is(24, "what " + n, x.callOf(0, n), BAD);
        }
    }

    private static void lie() {
        WhistledWords x = gorge();
        Due.is(25, "no call", x.lie(0, true), BAD);
        x.call(0, 0, 0, 0, 0, NONE);
        x.call(0, 0, 0, 0, 0, 0);
        x.call(0, 0, 1, 0, 0, NONE);
        Due.is(25, "not yet", x.lie(0, false), 0);
        Due.is(25, "now", x.lie(0, true), 0);
        Due.is(25, "it was", x.lie(0, true), 1);
        Due.is(34, "with its repeat", x.count(6), 2);
        Due.is(25, "a repeat", x.lie(1, true), STATE);
        Due.is(25, "a repeat", x.lie(1, false), STATE);
        Due.is(25, "another", x.lie(2, true), 0);
        Due.is(34, "all", x.count(6), 3);
        Due.is(25, "no more", x.lie(0, false), 1);
        Due.is(34, "one", x.count(6), 1);
        Due.is(23, "a repeat of a FALSE one", x.call(0, 0, 1, 0, 0, 2), 3);
        Due.is(34, "two", x.count(6), 2);
        Due.is(25, "no call", x.lie(4, true), BAD);
        for (int n : EXTREMES) {
            Due.is(25, "call " + n, x.lie(n, true), BAD);
        }
    }

    private static void has() {
        WhistledWords x = gorge();
        x.place(99, 99, 50);
        x.call(1, 3, 0, 0, 0, NONE);
        x.call(1, 4, 1, 1, 3, NONE);
        x.call(2, 0, 0, 0, 0, 0);
        x.call(3, 2, 0, 0, 0, 0);
        Due.is(26, "ahead of it", x.has(1, 0, 1, 2), NONE);
        Due.is(26, "at 3", x.has(1, 0, 1, 3), 3);
        Due.is(26, "at 5", x.has(3, 0, 1, 3), 7);
        Due.is(26, "until the repeat", x.has(3, 0, 1, 23), 7);
        Due.is(26, "with the repeat, at 3", x.has(3, 0, 2, 0), 3);
        Due.is(26, "with the repeat, at 1", x.has(1, 0, 2, 0), 1);
        Due.is(26, "until the next repeat", x.has(3, 0, 3, 1), 3);
        Due.is(26, "with the next repeat, at 1", x.has(3, 0, 3, 2), 1);
        Due.is(26, "ever", x.has(2, 0, 99, 23), 1);
        Due.is(26, "it is of that place", x.has(0, 0, 99, 23), NONE);
        Due.is(26, "too far", x.has(4, 0, 99, 23), NONE);
        Due.is(26, "a repeat", x.has(1, 2, 99, 23), STATE);
        Due.is(26, "a repeat, ahead of it", x.has(1, 2, 0, 0), STATE);
        Due.is(26, "another", x.has(0, 1, 99, 23), 8);
        x.lie(0, true);
        Due.is(26, "FALSE, but it was heard", x.has(3, 0, 3, 2), 1);
        Due.is(26, "no place", x.has(5, 0, 0, 0), BAD);
        Due.is(26, "no call", x.has(0, 4, 0, 0), BAD);
        Due.is(26, "day 100", x.has(0, 0, 100, 0), BAD);
        Due.is(26, "hour 24", x.has(0, 0, 0, 24), BAD);
        Due.is(26, "BAD ahead of STATE", x.has(0, 2, 0, 24), BAD);
        for (int n : EXTREMES) {
            Due.is(26, "place " + n, x.has(n, 0, 0, 0), BAD);
            Due.is(26, "call " + n, x.has(0, n, 0, 0), BAD);
            Due.is(26, "day " + n, x.has(0, 0, n, 0), BAD);
            Due.is(26, "hour " + n, x.has(0, 0, 0, n), BAD);
        }
    }

    private static void knows() {
        WhistledWords x = gorge();
        x.call(1, 3, 0, 0, 0, NONE);
        x.call(1, 4, 0, 0, 2, NONE);
        x.call(2, 0, 0, 0, 0, 0);
        x.call(3, 2, 0, 0, 0, NONE);
        Due.is(27, "nobody called", x.knows(0, 0, 1, 2), 0);
        Due.is(27, "it said so", x.knows(0, 0, 1, 3), 1);
        Due.is(27, "it said so", x.knows(0, 0, 1, 4), 5);
        Due.is(27, "not for another ask", x.knows(0, 1, 99, 23), 0);
        Due.is(27, "doubtful at 3", x.knows(1, 0, 1, 3), 0);
        Due.is(27, "te at 1", x.knows(1, 0, 1, 4), 4);
        Due.is(27, "with the repeat", x.knows(1, 0, 2, 0), 5);
        Due.is(27, "te at 2", x.knows(2, 0, 2, 0), 4);
        Due.is(27, "ta at 0", x.knows(2, 0, 3, 2), 5);
        Due.is(27, "ta at 1", x.knows(3, 0, 3, 2), 5);
        x.lie(0, true);
        Due.is(27, "FALSE, and its repeat", x.knows(1, 0, 2, 0), 4);
        Due.is(27, "FALSE, said itself", x.knows(0, 0, 2, 0), 4);
        Due.is(27, "another one of the same", x.knows(0, 0, 3, 2), 5);
        x.lie(0, false);
        Due.is(27, "FALSE no more", x.knows(1, 0, 2, 0), 5);
        x.sheet(0, 0, 1);
        Due.is(27, "of the winds that are known now", x.knows(1, 0, 1, 4), 4);
        Due.is(27, "of the winds that are known now", x.knows(2, 0, 3, 2), 0);
        Due.is(27, "no place", x.knows(4, 0, 0, 0), BAD);
        Due.is(27, "no ask", x.knows(0, 2, 0, 0), BAD);
        Due.is(27, "day 100", x.knows(0, 0, 100, 0), BAD);
        Due.is(27, "hour 24", x.knows(0, 0, 0, 24), BAD);
        for (int n : EXTREMES) {
            Due.is(27, "place " + n, x.knows(n, 0, 0, 0), BAD);
            Due.is(27, "ask " + n, x.knows(0, n, 0, 0), BAD);
            Due.is(27, "day " + n, x.knows(0, 0, n, 0), BAD);
            Due.is(27, "hour " + n, x.knows(0, 0, 0, n), BAD);
        }
    }

    private static void sinceAndSpread() {
        WhistledWords x = gorge();
        x.call(1, 3, 0, 0, 0, NONE);
        x.call(1, 4, 0, 0, 2, NONE);
        x.call(2, 0, 0, 0, 0, 0);
        x.call(3, 2, 0, 0, 0, 0);
        Due.is(28, "it said so", x.since(0, 0, 0), 0);
        Due.is(28, "by the repeat", x.since(1, 0, 0), 2);
        Due.is(28, "by the next repeat", x.since(2, 0, 0), 3);
        Due.is(28, "by the next repeat", x.since(3, 0, 0), 3);
        Due.is(28, "te", x.since(3, 0, 2), 1);
        Due.is(28, "nobody called ka", x.since(1, 0, 1), NONE);
        Due.is(28, "it does not fit", x.since(1, 0, 3), BAD);
        Due.is(28, "no place", x.since(4, 0, 0), BAD);
        Due.is(28, "no ask", x.since(0, 2, 0), BAD);
        Due.is(28, "no word", x.since(0, 0, 8), BAD);
        Due.is(29, "one", x.spread(0, 0, 1, 3, 0), 1);
        Due.is(29, "0", x.spread(0, 0, 1, 3, 1), 1);
        Due.is(29, "two", x.spread(0, 0, 2, 0, 0), 2);
        Due.is(29, "0 and 1", x.spread(0, 0, 3, 1, 1), 3);
        Due.is(29, "all", x.spread(0, 0, 3, 2, 1), 15);
        Due.is(29, "all", x.spread(0, 0, 99, 23, 0), 4);
        Due.is(29, "te", x.spread(0, 2, 1, 4, 1), 15);
        Due.is(29, "ka", x.spread(0, 1, 99, 23, 0), 0);
        Due.is(29, "it does not fit", x.spread(0, 3, 0, 0, 0), BAD);
        Due.is(29, "what 2", x.spread(0, 0, 0, 0, 2), BAD);
        Due.is(29, "hour 24", x.spread(0, 0, 0, 24, 0), BAD);
        for (int n : EXTREMES) {
            Due.is(28, "place " + n, x.since(n, 0, 0), BAD);
            Due.is(28, "ask " + n, x.since(0, n, 0), BAD);
            Due.is(28, "word " + n, x.since(0, 0, n), BAD);
            Due.is(29, "ask " + n, x.spread(n, 0, 0, 0, 0), BAD);
            Due.is(29, "word " + n, x.spread(0, n, 0, 0, 0), BAD);
            Due.is(29, "day " + n, x.spread(0, 0, n, 0, 0), BAD);
            Due.is(29, "hour " + n, x.spread(0, 0, 0, n, 0), BAD);
            Due.is(29, "what " + n, x.spread(0, 0, 0, 0, n), BAD);
        }
        x.lie(0, true);
        Due.is(28, "FALSE", x.since(1, 0, 0), NONE);
        Due.is(28, "FALSE, said itself", x.since(0, 0, 0), NONE);
        Due.is(29, "FALSE", x.spread(0, 0, 99, 23, 0), 0);
        Due.is(28, "another CALL", x.call(4, 0, 2, 0, 0, NONE), 4);
        Due.is(28, "by another CALL", x.since(1, 0, 0), 4);
    }

    /** The same WORD in two asks: what it MEANS is of the ask of the CALL. */
    private static void twoAsks() {
        WhistledWords x = Due.speaking("stop t 0;stop k 1;high a 3;word ta;word ka;word a;ask 0,1;ask 0,2;");
        x.sheet(0, 0, 24);
        x.place(0, 0, 0);
        x.place(40, 0, 0);
        x.call(0, 0, 0, 0, 0, NONE);
        Due.is(23, "a repeat of another ask", x.call(0, 0, 0, 1, 0, 0), BAD);
        x.call(0, 0, 0, 1, 0, NONE);
        Due.is(26, "ask 0", x.has(1, 0, 0, 0), 3);
        Due.is(26, "ask 1", x.has(1, 1, 0, 0), 1);
        Due.is(27, "ask 0", x.knows(1, 0, 0, 0), 0);
        Due.is(27, "ask 1", x.knows(1, 1, 0, 0), 1);
        Due.is(28, "ask 0", x.since(1, 0, 0), NONE);
        Due.is(28, "ask 1", x.since(1, 1, 0), 1);
        Due.is(29, "ask 0", x.spread(0, 0, 0, 0, 1), 1);
        Due.is(29, "ask 1", x.spread(1, 0, 0, 0, 1), 3);
        // Two CALLS of one WORD that are no REPEATS are not taken together.
        x.call(0, 1, 0, 0, 0, NONE);
        Due.is(27, "not together", x.knows(1, 0, 0, 1), 0);
    }
}
