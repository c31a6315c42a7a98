import java.util.ArrayList;
import java.util.Collections;
import java.util.HashSet;
import java.util.List;
import java.util.Random;
import java.util.Set;

/** All promises: runs of up to 512 calls, by chance from fixed seeds, on the program and on the Model. */
public final class ModelTest {
    private static final int RUNS = 400, CALLS = 512;
    private static final String[] KEYS = {"high", "stop", "glide", "mute", "word", "ask"};
    private static final int[] WILD = {Integer.MIN_VALUE, Integer.MIN_VALUE + 9, Integer.MIN_VALUE + 10, -11, -10, -4, -3, -2, -1,
        0, 1, 2, 5, 6, 8, 9, 10, 16, 24, 26, 30, 60, 61, 99, 100, 127, 128, 256, 400, 65536, Integer.MAX_VALUE - 9, Integer.MAX_VALUE};

    private static Random chance;
    private static WhistledWords program;
    private static Model model;
    private static int callsLeft;
    private static int run;
    private static int wildness;
    private static int day;
    private static int hour;
    private static int mostPlaces;

    public static void main(String[] args) {
        int runs = args.length > 0 ? Integer.parseInt(args[0]) : RUNS;
        int firstSeed = args.length > 1 ? Integer.parseInt(args[1]) : 0;
        for (run = firstSeed; run < firstSeed + runs; run++) {
            chance = new Random(run);
            program = new WhistledWords();
            model = new Model();
            callsLeft = CALLS;
            day = 0;
            hour = 0;
            wildness = run % 4 == 0 ? 5 : 60;
            mostPlaces = run % 16 == 0 ? 10 : 6;
            if (run % 8 == 1) {
                texts();
            } else {
                story();
            }
        }
        Due.finish();
    }

    private static void same(String call, int got, int due) {
        callsLeft--;
        Due.is(0, "run " + run + ", call " + (CALLS - callsLeft) + ": " + call, got, due);
    }

    private static int below(int n) {
        return chance.nextInt(n);
    }

    /** A number below n, or rarely one that is wild. */
    private static int some(int n) {
        if (below(wildness) == 0) {
            return WILD[below(WILD.length)];
        }
        return n <= 0 ? 0 : below(n);
    }

    private static int orNone(int n) {
        return below(3) == 0 ? n : Model.NONE;
    }

    // ---- texts

    private static void texts() {
        while (callsLeft > 60) {
            String text = text(24 + below(380));
            for (int times = below(3); times > 0; times--) {
                text = spoil(text);
            }
            put(text.length() > 400 ? text.substring(0, 400) : text);
            if (below(3) == 0) {
                askAround(5);
            }
        }
    }

    private static void put(String text) {
        for (int at = 0; at < text.length(); at += 8) {
            long v = 0;
            for (int i = 0; i < 8; i++) {
                v = v << 8 | (at + i < text.length() ? text.charAt(at + i) & 255 : chance.nextInt(256));
            }
            same("feed " + v, program.feed(v), model.feed(v));
        }
        same("end " + text.length(), program.end(text.length()), model.end(text.length()));
        same("tongue of '" + text + "'", program.tongue(), model.tongue());
        same("fault of '" + text + "'", program.fault(), model.fault());
        for (int what = 0; what < 3; what++) {
            same("count " + what + " of '" + text + "'", program.count(what), model.count(what));
        }
    }

    private static String blanks() {
        return below(6) == 0 ? "  ".substring(below(2)) : "";
    }

    private static String text(int length) {
        StringBuilder text = new StringBuilder();
        StringBuilder letters = new StringBuilder();
        int words = 0;
        int letterLines = 2 + below(7);
        for (int i = 0; i < letterLines; i++) {
            char letter = (char) ('a' + below(26));
            if (letters.indexOf("" + letter) >= 0) {
                continue;
            }
            letters.append(letter);
            int kind = below(8);
            String key = KEYS[kind < 4 ? 0 : kind < 6 ? 1 : kind - 4];
            text.append(key).append(' ').append(letter).append(blanks());
            if (kind < 6) {
                int near = below(2) == 0 ? 4 : 16;
                text.append(below(4) == 0 ? " " : "").append(below(kind < 4 ? near : 4));
            }
            text.append(blanks()).append(';').append(blanks());
        }
        Set<String> names = new HashSet<>();
        for (int tries = 0; tries < 60 && text.length() < length - 30; tries++) {
            StringBuilder name = new StringBuilder(words > 0 && below(2) == 0 ? names.iterator().next() : "");
            if (name.length() > 0) {
                name.setCharAt(below(name.length()), letters.charAt(below(letters.length())));
            } else {
                int most = below(4) == 0 ? 8 : 3;
                for (int n = 1 + below(most); n > 0; n--) {
                    name.append(letters.charAt(below(letters.length())));
                }
            }
            if ((words < 16 || below(900) == 0) && names.add(name.toString())) {
                text.append("word ").append(name).append(';').append(blanks());
                words++;
            }
        }
        for (int asks = below(7 + (below(8) == 0 ? 1 : 0)); asks > 0 && words > 0; asks--) {
            text.append(ask(Math.min(words, 16)));
        }
        return text.toString();
    }

    private static String ask(int words) {
        StringBuilder text = new StringBuilder("ask ");
        List<Integer> all = new ArrayList<>();
        for (int w = 0; w < words; w++) {
            all.add(w);
        }
        Collections.shuffle(all, chance);
        int n = 1 + below(Math.min(words, 9));
        for (int i = 0; i < n; i++) {
            text.append(i > 0 ? "," : "").append(blanks()).append(all.get(i)).append(blanks());
        }
        return text.append(';').toString();
    }

    /** A byte or a piece other than it was. */
    private static String spoil(String text) {
        if (text.isEmpty()) {
            return text;
        }
        int at = below(text.length());
        String[] pieces = {"", " ", ";", ",", ".", "?", "a", "zz", "7", "16", "123", "high ", "word ", "ask ", "\0", "\u00e9", "A", "mute m;"};
        String piece = pieces[below(pieces.length)];
        switch (below(4)) {
            case 0:
                return text.substring(0, at) + piece + text.substring(at);
            case 1:
                return text.substring(0, at) + piece + text.substring(at + 1);
            case 2:
                return text.substring(0, at);
            default:
                int from = below(text.length());
                return text.substring(0, at) + text.substring(Math.min(from, at), Math.max(from, at)) + text.substring(at);
        }
    }

    // ---- stories

    private static void story() {
        askAround(2);
        put(first400(text(150 + below(250))));
        askAround(10);
        while (callsLeft > 0) {
            int kind = below(20);
            if (kind < 8) {
                change();
            } else {
                askAround(1);
            }
        }
    }

    private static String first400(String text) {
        return text.length() > 400 ? text.substring(0, 400) : text;
    }

    private static void change() {
        switch (below(12)) {
            case 0: {
                if (model.count(3) >= mostPlaces && mostPlaces < 10) {
                    return;
                }
                int x = some(100);
                int y = some(100);
                int h = some(100);
                same("place " + x + " " + y + " " + h, program.place(x, y, h), model.place(x, y, h));
                return;
            }
            case 1: {
                int x = some(100);
                int h = some(100);
                if (below(3) == 0) {
                    same("ridge " + x + " " + h, program.ridge(x, h), model.ridge(x, h));
                }
                return;
            }
            case 2: {
                int k = some(below(2) == 0 ? 1 : 4);
                int lane = some(k == 0 && below(4) != 0 ? 1 : 3);
                int n = some(below(3) == 0 ? 61 : 25);
                same("sheet " + k + " " + lane + " " + n, program.sheet(k, lane, n), model.sheet(k, lane, n));
                return;
            }
            case 3:
            case 4:
            case 5: {
                int k = some(below(2) == 0 ? 1 : 4);
                int i = some(below(2) == 0 ? 24 : 10);
                int v = k == 0 ? some(8) - 4 : some(22);
                same("lay " + k + " " + i + " " + v, program.lay(k, i, v), model.lay(k, i, v));
                return;
            }
            case 6: {
                if (below(20) == 0) {
                    same("child", program.child(), model.child());
                }
                return;
            }
            case 7: {
                int c = some(model.count(7));
                int v = some(model.count(0));
                int w = some(model.count(0));
                same("learn " + c + " " + v + " " + w, program.learn(c, v, w), model.learn(c, v, w));
                return;
            }
            case 8: {
                int c = some(model.count(5));
                boolean is = chance.nextBoolean();
                same("lie " + c + " " + is, program.lie(c, is), model.lie(c, is));
                return;
            }
            default:
                callOut();
        }
    }

    private static int fitting(int ask) {
        int bits = model.ask(ask, 1);
        if (bits <= 0 || below(wildness) == 0) {
            return some(model.count(0));
        }
        int w;
        do {
            w = below(16);
        } while ((bits >> w & 1) == 0);
        return w;
    }

    private static void callOut() {
        if (callsLeft > 460 && below(3) != 0) {
            return;
        }
        hour += below(8);
        if (hour > 23) {
            hour = below(4);
            day = Math.min(day + 1, 99);
        }
        int d = below(15) == 0 ? some(day + 2) : day;
        int h = below(15) == 0 ? some(24) : hour;
        int from = some(model.count(3));
        int ask = some(model.count(1));
        int w = fitting(ask);
        int repeat = Model.NONE;
        int calls = model.count(5);
        if (calls > 0 && below(2) == 0) {
            repeat = some(calls);
            if (repeat >= 0 && repeat < calls && below(8) != 0) {
                int first = model.callOf(repeat, 5);
                repeat = first == Model.NONE ? repeat : first;
                from = model.callOf(repeat, 2);
                ask = model.callOf(repeat, 3);
                w = model.callOf(repeat, 4);
            }
        }
        same("call " + d + " " + h + " " + from + " " + ask + " " + w + " " + repeat,
                program.call(d, h, from, ask, w, repeat), model.call(d, h, from, ask, w, repeat));
    }

    private static void askAround(int times) {
        for (int i = 0; i < times && callsLeft > 0; i++) {
            switch (below(3)) {
                case 0:
                    askTongue();
                    break;
                case 1:
                    askLand();
                    break;
                default:
                    askCalls();
            }
        }
    }

    private static void askTongue() {
        int v = some(model.count(0));
        int w = some(model.count(0));
        int ask = some(model.count(1));
        int blur = some(6);
        int other = some(6);
        int fit = fitting(ask);
        int what = below(2) == 0 ? some(4) : 10 + some(9);
        switch (below(12)) {
            case 0:
                same("word " + w + " " + what, program.word(w, what), model.word(w, what));
                return;
            case 1:
                same("ask " + ask, program.ask(ask, what % 3), model.ask(ask, what % 3));
                return;
            case 2:
                same("blurred " + w + " " + blur + " " + other, program.blurred(w, blur, other), model.blurred(w, blur, other));
                return;
            case 3:
                same("apart " + v + " " + w + " " + blur, program.apart(v, w, blur), model.apart(v, w, blur));
                return;
            case 4:
                same("until " + v + " " + w, program.until(v, w), model.until(v, w));
                return;
            case 5: {
                int of = model.count(0) <= 10 ? orNone(ask) : ask;
                int kind = some(3);
                same("cut " + of + " " + blur + " " + kind, program.cut(of, blur, kind), model.cut(of, blur, kind));
                return;
            }
            case 6: {
                int k = some(4);
                int lane = some(3);
                int f = some(10);
                int n = some(9);
                same("means " + ask + " " + blur + " " + k + " " + lane + " " + f + " " + n,
                        program.means(ask, blur, k, lane, f, n), model.means(ask, blur, k, lane, f, n));
                return;
            }
            case 7:
                hearing(ask, fit, blur);
                return;
            case 8:
                same("both " + ask + " " + fit, program.both(ask, fit, blur, other), model.both(ask, fit, blur, other));
                return;
            case 9:
                same("sure " + ask + " " + fit, program.sure(ask, fit), model.sure(ask, fit));
                return;
            case 10:
                same("fault", program.fault(), model.fault());
                return;
            default: {
                int kind = some(11);
                same("count " + kind, program.count(kind), model.count(kind));
            }
        }
    }

    /** A WORD's own row is laid on a SHEET, so that it MEANS something. */
    private static void hearing(int ask, int w, int blur) {
        // It takes a sheet, up to eight lays and the question.
        if (model.blurred(w, blur, 0) == Model.BAD || callsLeft < 10) {
            return;
        }
        int lane = below(3);
        int k = 1 + below(3);
        int f = below(3);
        int n = 0;
        same("sheet", program.sheet(k, lane, 12), model.sheet(k, lane, 12));
        while (n < 8 && model.blurred(w, blur, n) >= 0) {
            int mark = model.blurred(w, blur, n) + 256 * (lane == 0 ? below(3) : 0);
            same("lay", program.lay(k, f + n, mark), model.lay(k, f + n, mark));
            n++;
        }
        same("means what was said", program.means(ask, blur, k, lane, f, n), model.means(ask, blur, k, lane, f, n));
    }

    private static void askLand() {
        int a = some(model.count(3));
        int b = some(model.count(3));
        int hour = some(24);
        int what = below(2) == 0 ? some(3) : 10 + some(6);
        switch (below(4)) {
            case 0:
                same("wind " + hour + " " + what % 3, program.wind(hour, what % 3), model.wind(hour, what % 3));
                return;
            case 1:
                same("blur " + a + " " + b + " " + hour, program.blur(a, b, hour), model.blur(a, b, hour));
                return;
            case 2:
                same("hears " + a + " " + hour + " " + what % 4, program.hears(a, hour, what % 4), model.hears(a, hour, what % 4));
                return;
            default:
                if (model.count(3) <= 7 || below(10) == 0) {
                    same("way " + a + " " + b + " " + hour + " " + what, program.way(a, b, hour, what), model.way(a, b, hour, what));
                }
        }
    }

    private static void askCalls() {
        int c = some(model.count(5));
        int place = some(model.count(3));
        int ask = some(model.count(1));
        int w = fitting(ask);
        int d = below(3) == 0 ? some(100) : some(day + 1);
        int h = some(24);
        int child = some(model.count(7));
        switch (below(8)) {
            case 0:
            case 1: {
                int what = some(9);
                same("callOf " + c + " " + what, program.callOf(c, what), model.callOf(c, what));
                return;
            }
            case 2:
                same("has " + place + " " + c + " " + d + " " + h, program.has(place, c, d, h), model.has(place, c, d, h));
                return;
            case 3:
                same("knows " + place + " " + ask + " " + d + " " + h,
                        program.knows(place, ask, d, h), model.knows(place, ask, d, h));
                return;
            case 4:
                same("since " + place + " " + ask + " " + w, program.since(place, ask, w), model.since(place, ask, w));
                return;
            case 5: {
                int what = some(2);
                same("spread " + ask + " " + w + " " + d + " " + h + " " + what,
                        program.spread(ask, w, d, h, what), model.spread(ask, w, d, h, what));
                return;
            }
            case 6: {
                int what = below(2) == 0 ? some(4) : 10 + some(model.count(0));
                same("childOf " + child + " " + what, program.childOf(child, what), model.childOf(child, what));
                return;
            }
            default:
                same("lessons " + child + " " + ask, program.lessons(child, ask), model.lessons(child, ask));
        }
    }
}
