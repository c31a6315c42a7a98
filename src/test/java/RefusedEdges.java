import java.util.ArrayList;
import java.util.List;

/** Which answer comes first where several fit, and that what is refused changes nothing. */
final class RefusedEdges {
    private static final int BAD = -1, STATE = -2, FULL = -3, NONE = -4;
    private static final int[] WILD = {Integer.MIN_VALUE, -5, -3, -2, -1, 100, Integer.MAX_VALUE};

    /** A call on an object. */
    private interface Call {
        int on(WhistledWords x);
    }

    private record Refusal(String name, int due, Call call) { }

    private RefusedEdges() {
    }

    static void run() {
        firstThatFits();
        changesNothing();
        tapeChangesNothing();
        tapeAsTold();
    }

    private static void firstThatFits() {
        Doc.says(Doc.TERMS, "Answers: BAD -1 (a number is not as told, there is no such WORD, ASK, PLACE, RIDGE, CALL, CHILD, SHEET), "
                + "STATE -2 (as told), FULL -3, NONE -4 (there is none), the first that fits;");
        WhistledWords x = full();
        Doc.is("BAD ahead of FULL", x.place(100, 0, 0), BAD);
        Doc.is("FULL", x.place(99, 0, 0), FULL);
        Doc.is("BAD ahead of FULL", x.ridge(100, 0), BAD);
        Doc.is("FULL", x.ridge(99, 0), FULL);
        Doc.is("BAD ahead of STATE and FULL", x.call(0, 0, 0, 0, 7, NONE), BAD);
        Doc.is("STATE ahead of FULL", x.call(0, 0, 0, 0, 0, NONE), STATE);
        Doc.is("FULL", x.call(9, 9, 0, 0, 0, NONE), FULL);
        Doc.is("BAD ahead of STATE", x.lie(30, true), BAD);
        Doc.is("STATE", x.lie(1, true), STATE);
        Doc.is("BAD ahead of STATE and NONE", x.has(0, 1, 0, 24), BAD);
        Doc.is("STATE ahead of NONE", x.has(0, 1, 0, 0), STATE);
        Doc.is("NONE", x.has(0, 0, 0, 0), NONE);
        Doc.is("BAD ahead of NONE", x.blurred(8, 0, 9), BAD);
        Doc.is("NONE", x.blurred(0, 0, 9), NONE);
        Doc.is("BAD ahead of NONE", x.way(0, 0, 0, 99), BAD);
        Doc.is("NONE", x.way(0, 1, 0, 99), NONE);
    }

    /** Something of everything. */
    private static WhistledWords some() {
        WhistledWords x = new WhistledWords();
        Due.tell(x, Due.TONGUE);
        Due.tell(x, "?");
        x.sheet(0, 0, 6);
        for (int h = 0; h < 6; h++) {
            x.lay(0, h, h - 3);
        }
        x.sheet(1, 1, 2);
        x.lay(1, 0, 16);
        x.lay(1, 1, 4);
        x.sheet(2, 2, 0);
        x.place(0, 0, 50);
        x.place(20, 0, 40);
        x.place(60, 0, 50);
        x.ridge(10, 45);
        x.ridge(50, 60);
        x.call(1, 3, 0, 0, 0, NONE);
        x.call(1, 4, 0, 0, 0, 0);
        x.call(2, 5, 1, 1, 5, NONE);
        x.lie(2, true);
        x.child();
        x.child();
        x.learn(0, 0, 1);
        Due.put(x, "mute m;");
        return x;
    }

    /** No room for anything more. */
    private static WhistledWords full() {
        WhistledWords x = Due.speaking(Due.TONGUE);
        x.sheet(0, 0, 24);
        for (int i = 0; i < 10; i++) {
            x.place(i, i, i);
        }
        for (int i = 0; i < 6; i++) {
            x.ridge(i, i);
        }
        for (int i = 0; i < 30; i++) {
            x.call(9, 9, 0, 0, 0, i == 0 ? NONE : 0);
        }
        for (int i = 0; i < 4; i++) {
            x.child();
        }
        for (int i = 0; i < 50; i++) {
            x.feed(-1L);
        }
        return x;
    }

    /** All that can be told of an object, by fewer calls than it has left. */
    private static List<Integer> look(WhistledWords x) {
        List<Integer> seen = new ArrayList<>();
        for (int what = 0; what < 10; what++) {
            seen.add(x.count(what));
        }
        seen.add(x.fault());
        for (int w = 0; w < 8; w++) {
            for (int what : new int[] {0, 1, 3, 10, 11}) {
                seen.add(x.word(w, what));
            }
        }
        seen.add(x.ask(0, 1));
        seen.add(x.ask(1, 1));
        seen.add(x.means(0, 0, 1, 1, 0, 2));
        seen.add(x.lay(3, 0, 0));
        for (int hour = 0; hour < 7; hour++) {
            seen.add(x.wind(hour, 0));
        }
        for (int a = 0; a < 3; a++) {
            for (int b = 0; b < 3; b++) {
                seen.add(x.blur(a, b, 3));
            }
        }
        for (int c = 0; c < 4; c++) {
            for (int what = 0; what < 9; what++) {
                seen.add(x.callOf(c, what));
            }
            seen.add(x.has(2, c, 99, 23));
        }
        for (int p = 0; p < 3; p++) {
            seen.add(x.knows(p, 0, 99, 23));
            seen.add(x.knows(p, 1, 99, 23));
            seen.add(x.since(p, 0, 0));
        }
        for (int c = 0; c < 4; c++) {
            for (int what : new int[] {0, 1, 2, 3, 10, 11, 12, 14, 16}) {
                seen.add(x.childOf(c, what));
            }
        }
        return seen;
    }

    private static void changesNothing() {
        Doc.says(Doc.TERMS, "what is refused changes nothing (but THE TAPE, as told).");
        List<Integer> before = look(some());
        for (Refusal r : refusals()) {
            WhistledWords x = some();
            Doc.is(r.name, r.call.on(x), r.due);
            Doc.is(r.name + " changes nothing", look(x).equals(before) ? 1 : 0, 1);
        }
        List<Integer> fullBefore = look(full());
        for (Refusal r : refusalsOfFull()) {
            WhistledWords x = full();
            Doc.is(r.name, r.call.on(x), r.due);
            Doc.is(r.name + " changes nothing", look(x).equals(fullBefore) ? 1 : 0, 1);
        }
    }

    private static List<Refusal> refusals() {
        List<Refusal> all = new ArrayList<>();
        for (int n : WILD) {
            all.add(new Refusal("end " + n, BAD, x -> x.end(n)));
            all.add(new Refusal("place x " + n, BAD, x -> x.place(n, 0, 0)));
            all.add(new Refusal("place y " + n, BAD, x -> x.place(0, n, 0)));
            all.add(new Refusal("place HEIGHT " + n, BAD, x -> x.place(0, 0, n)));
            all.add(new Refusal("ridge x " + n, BAD, x -> x.ridge(n, 0)));
            all.add(new Refusal("ridge HEIGHT " + n, BAD, x -> x.ridge(0, n)));
            all.add(new Refusal("sheet k " + n, BAD, x -> x.sheet(n, 0, 9)));
            all.add(new Refusal("sheet lane " + n, BAD, x -> x.sheet(0, n, 9)));
            all.add(new Refusal("sheet n " + n, n < 0 ? -14 : BAD, x -> x.sheet(0, 0, n)));
            all.add(new Refusal("lay k " + n, BAD, x -> x.lay(n, 0, 9)));
            all.add(new Refusal("lay i " + n, -12, x -> x.lay(0, n, 9)));
            all.add(new Refusal("lay on nothing " + n, -11, x -> x.lay(3, n, 9)));
            all.add(new Refusal("call DAY " + n, BAD, x -> x.call(n, 5, 0, 0, 0, NONE)));
            all.add(new Refusal("call HOUR " + n, BAD, x -> x.call(2, n, 0, 0, 0, NONE)));
            all.add(new Refusal("call PLACE " + n, BAD, x -> x.call(2, 5, n, 0, 0, NONE)));
            all.add(new Refusal("call ask " + n, BAD, x -> x.call(2, 5, 0, n, 0, NONE)));
            all.add(new Refusal("call WORD " + n, BAD, x -> x.call(2, 5, 0, 0, n, NONE)));
            all.add(new Refusal("call repeat " + n, BAD, x -> x.call(2, 5, 0, 0, 0, n)));
            all.add(new Refusal("lie " + n, BAD, x -> x.lie(n, true)));
            all.add(new Refusal("learn CHILD " + n, BAD, x -> x.learn(n, 0, 2)));
            all.add(new Refusal("learn WORD " + n, BAD, x -> x.learn(0, n, 2)));
            all.add(new Refusal("learn WORD " + n, BAD, x -> x.learn(0, 2, n)));
        }
        all.add(new Refusal("end 8 of 7", BAD, x -> x.end(8)));
        all.add(new Refusal("tongue with CALLS and CHILDREN", STATE, x -> x.tongue()));
        all.add(new Refusal("sheet of 61", BAD, x -> x.sheet(0, 0, 61)));
        all.add(new Refusal("sheet of -1, another lane", -14, x -> x.sheet(0, 2, -1)));
        all.add(new Refusal("sheet of -1, of nothing", -14, x -> x.sheet(3, 0, -1)));
        all.add(new Refusal("lay behind the last", -12, x -> x.lay(0, 6, 9)));
        all.add(new Refusal("lay on no CELLS", -12, x -> x.lay(2, 0, 9)));
        all.add(new Refusal("call ahead by an HOUR", STATE, x -> x.call(2, 4, 0, 0, 0, NONE)));
        all.add(new Refusal("call ahead by a DAY", STATE, x -> x.call(1, 23, 0, 0, 0, 0)));
        all.add(new Refusal("call of a WORD that does not fit", BAD, x -> x.call(2, 5, 0, 1, 0, NONE)));
        all.add(new Refusal("call that repeats a REPEAT", BAD, x -> x.call(2, 5, 0, 0, 0, 1)));
        all.add(new Refusal("call that repeats another", BAD, x -> x.call(2, 5, 0, 0, 0, 2)));
        all.add(new Refusal("call that repeats itself", BAD, x -> x.call(2, 5, 0, 0, 0, 3)));
        all.add(new Refusal("lie of a REPEAT", STATE, x -> x.lie(1, true)));
        all.add(new Refusal("lie of a REPEAT", STATE, x -> x.lie(1, false)));
        all.add(new Refusal("lie of none", BAD, x -> x.lie(3, true)));
        all.add(new Refusal("learn one and the same", BAD, x -> x.learn(0, 2, 2)));
        all.add(new Refusal("learn what it had", 0, x -> x.learn(0, 1, 0)));
        all.add(new Refusal("learn WORD 8", BAD, x -> x.learn(0, 2, 8)));
        all.add(new Refusal("learn of none", BAD, x -> x.learn(2, 0, 2)));
        return all;
    }

    private static List<Refusal> refusalsOfFull() {
        List<Refusal> all = new ArrayList<>();
        all.add(new Refusal("the 51st feed", FULL, x -> x.feed(0x6d757465206d3b20L)));
        all.add(new Refusal("the 11th place", FULL, x -> x.place(50, 50, 50)));
        all.add(new Refusal("the 7th ridge", FULL, x -> x.ridge(1, 99)));
        all.add(new Refusal("the 31st call", FULL, x -> x.call(10, 10, 1, 1, 5, NONE)));
        all.add(new Refusal("the 31st call, a REPEAT", FULL, x -> x.call(9, 9, 0, 0, 0, 0)));
        all.add(new Refusal("the 31st call, ahead", STATE, x -> x.call(9, 8, 1, 1, 5, NONE)));
        all.add(new Refusal("the 5th child", FULL, x -> x.child()));
        all.add(new Refusal("tongue", STATE, x -> x.tongue()));
        return all;
    }

    /** What THE TAPE holds is told by the tongue alone, where there are no CALLS and CHILDREN yet. */
    private static void tapeChangesNothing() {
        String text = "mute m;" + " ".repeat(386) + "mute n;";
        WhistledWords x = new WhistledWords();
        Due.put(x, text);
        Doc.is("FULL", x.feed(-1L), FULL);
        Doc.is("end 401", x.end(401), BAD);
        Doc.is("end -1", x.end(-1), BAD);
        Doc.is("it is as it was", x.tongue(), 0);
        Doc.is("it is as it was", x.count(2), 2);
        Due.put(x, text.substring(0, 393));
        Doc.is("FULL at 393", x.feed(-1L), FULL);
        Doc.is("393", x.count(8), 393);
        Doc.is("it is as it was", x.tongue(), 0);
        Doc.is("it is as it was", x.count(2), 1);
    }

    private static void tapeAsTold() {
        WhistledWords x = Due.speaking(Due.TONGUE);
        x.place(0, 0, 0);
        Due.put(x, "mute m;word m;ask 0;?");
        Doc.is("a text with a FAULT", x.tongue(), -30);
        Doc.is("THE TAPE is empty", x.count(8), 0);
        Doc.is("the WORDS stay", x.count(0), 8);
        Doc.is("the asks stay", x.count(1), 2);
        Doc.is("the LETTERS stay", x.count(2), 7);
        Doc.is("their rows stay", x.cut(NONE, 3, 1), 173);
        Doc.is("ask 1 stays", x.ask(1, 1), 120);
        Doc.is("they still fit", x.call(0, 0, 0, 1, 6, NONE), 0);
        Due.put(x, "mute m;");
        Doc.is("STATE", x.tongue(), STATE);
        Doc.is("THE TAPE stays", x.count(8), 7);
    }
}
