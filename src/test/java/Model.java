import java.util.ArrayList;
import java.util.Arrays;
import java.util.Collections;
import java.util.HashSet;
import java.util.List;
import java.util.Set;
import java.util.TreeMap;

/** The document once more, said as directly as may be and without thought for speed, to hold the program against. */
final class Model {
    static final int BAD = -1, STATE = -2, FULL = -3, NONE = -4;

    record Word(String name, List<Integer> speech) { }
    record Place(int x, int y, int height) { }
    record Ridge(int x, int height) { }
    record Call(int day, int hour, int from, int ask, int word, int repeat) { }

    /** Thrown by the reading of a text. */
    static final class TextFault extends Exception {
        private static final long serialVersionUID = 1L;
        final int kind;
        final int place;

        TextFault(int kind, int place) {
            this.kind = kind;
            this.place = place;
        }
    }

    static final class Tongue {
        final TreeMap<Character, Integer> letters = new TreeMap<>();
        final List<Word> words = new ArrayList<>();
        final List<List<Integer>> asks = new ArrayList<>();
    }

    private final StringBuilder tape = new StringBuilder();
    private Tongue tongue = new Tongue();
    private int fault = 0;
    private final List<Place> places = new ArrayList<>();
    private final List<Ridge> ridges = new ArrayList<>();
    private final Object[] sheets = new Object[4];
    private final List<Call> calls = new ArrayList<>();
    private final Set<Integer> lies = new HashSet<>();
    private final List<Set<Set<Integer>>> children = new ArrayList<>();

    // ---- the tongue

    int feed(long v) {
        if (tape.length() + 8 > 400) {
            return FULL;
        }
        for (int shift = 56; shift >= 0; shift -= 8) {
            tape.append((char) (v >>> shift & 255));
        }
        return tape.length();
    }

    int end(int n) {
        int had = tape.length();
        if (n < 0 || n > had) {
            return BAD;
        }
        tape.setLength(n);
        return had;
    }

    int tongue() {
        if (!calls.isEmpty() || !children.isEmpty()) {
            return STATE;
        }
        String text = tape.toString();
        tape.setLength(0);
        try {
            tongue = new Text(text).read();
            fault = 0;
            return tongue.words.size();
        } catch (TextFault f) {
            fault = f.kind;
            return -10 - f.place;
        }
    }

    static final class Text {
        final String text;
        int at = 0;
        int start = 0;
        final Tongue into = new Tongue();

        Text(String text) {
            this.text = text;
        }

        /** The next TOKEN; "" at the end. */
        String next() throws TextFault {
            while (at < text.length() && text.charAt(at) == ' ') {
                at++;
            }
            start = at;
            String rest = text.substring(at);
            String token = rest.isEmpty() ? "" : rest.replaceFirst("(?s)^([a-z]+|[0-9]+|;|,|).*$", "$1");
            if (!rest.isEmpty() && token.isEmpty() || token.matches("[0-9]{3,}")) {
                throw new TextFault(1, start);
            }
            at += token.length();
            return token;
        }

        String next(String pattern) throws TextFault {
            String token = next();
            if (!token.matches(pattern)) {
                throw new TextFault(2, start);
            }
            return token;
        }

        Tongue read() throws TextFault {
            while (true) {
                String key = next();
                switch (key) {
                    case "":
                        return into;
                    case "high":
                        letter(15, 0);
                        break;
                    case "stop":
                        letter(3, 16);
                        break;
                    case "glide":
                        letter(-1, 20);
                        break;
                    case "mute":
                        letter(-1, -1);
                        break;
                    case "word":
                        word();
                        break;
                    case "ask":
                        ask();
                        break;
                    default:
                        throw new TextFault(2, start);
                }
            }
        }

        void letter(int most, int mark) throws TextFault {
            char letter = next("[a-z]").charAt(0);
            if (into.letters.containsKey(letter)) {
                throw new TextFault(4, start);
            }
            int value = 0;
            if (most >= 0) {
                value = Integer.parseInt(next("[0-9]+"));
                if (value > most) {
                    throw new TextFault(3, start);
                }
            }
            into.letters.put(letter, mark + value);
            next(";");
        }

        void word() throws TextFault {
            if (into.words.size() == 16) {
                throw new TextFault(6, start);
            }
            String name = next("[a-z]+");
            List<Integer> speech = new ArrayList<>();
            for (char c : name.toCharArray()) {
                if (name.length() > 8 || !into.letters.containsKey(c)) {
                    throw new TextFault(5, start);
                }
                if (into.letters.get(c) >= 0) {
                    speech.add(into.letters.get(c));
                }
            }
            for (Word w : into.words) {
                if (w.name.equals(name)) {
                    throw new TextFault(4, start);
                }
            }
            into.words.add(new Word(name, speech));
            next(";");
        }

        void ask() throws TextFault {
            if (into.asks.size() == 6) {
                throw new TextFault(6, start);
            }
            List<Integer> fitting = new ArrayList<>();
            do {
                int w = Integer.parseInt(next("[0-9]+"));
                if (w >= into.words.size() || fitting.contains(w)) {
                    throw new TextFault(3, start);
                }
                fitting.add(w);
            } while (next("[;,]").equals(","));
            into.asks.add(fitting);
        }
    }

    int fault() {
        return fault;
    }

    private boolean noWord(int w) {
        return w < 0 || w >= tongue.words.size();
    }

    private boolean noAsk(int a) {
        return a < 0 || a >= tongue.asks.size();
    }

    private boolean unfit(int ask, int w) {
        return noAsk(ask) || !tongue.asks.get(ask).contains(w);
    }

    private static boolean out(int v, int most) {
        return v < 0 || v > most;
    }

    private static int bits(Iterable<Integer> of) {
        int bits = 0;
        for (int i : of) {
            bits |= 1 << i;
        }
        return bits;
    }

    int word(int w, int what) {
        if (noWord(w)) {
            return BAD;
        }
        Word word = tongue.words.get(w);
        if (what == 0) {
            return word.name.length();
        }
        if (what == 1) {
            return word.speech.size();
        }
        if (what == 2) {
            return (int) word.speech.stream().filter(m -> m < 16).count();
        }
        if (what == 3) {
            return (int) tongue.asks.stream().filter(a -> a.contains(w)).count();
        }
        return what >= 10 && what - 10 < word.speech.size() ? word.speech.get(what - 10) : BAD;
    }

    int ask(int a, int what) {
        if (noAsk(a) || out(what, 1)) {
            return BAD;
        }
        return what == 0 ? tongue.asks.get(a).size() : bits(tongue.asks.get(a));
    }

    private List<Integer> row(int w, int blur) {
        List<Integer> row = new ArrayList<>();
        for (int mark : tongue.words.get(w).speech) {
            int heard;
            if (mark < 16) {
                heard = Math.floorDiv(mark, (int) Math.pow(2, blur));
            } else if (blur >= 4) {
                continue;
            } else if (mark == 20) {
                heard = blur == 3 ? 16 : 20;
            } else {
                heard = blur >= 2 ? 16 : mark;
            }
            row.add(heard);
        }
        if (blur >= 3) {
            for (int i = row.size() - 1; i > 0; i--) {
                if (row.get(i).equals(row.get(i - 1))) {
                    row.remove(i);
                }
            }
        }
        return row;
    }

    int blurred(int w, int blur, int i) {
        if (noWord(w) || out(blur, 5) || i < 0) {
            return BAD;
        }
        List<Integer> row = row(w, blur);
        return i < row.size() ? row.get(i) : NONE;
    }

    private boolean areApart(int v, int w, int blur) {
        return !row(v, blur).equals(row(w, blur));
    }

    int apart(int v, int w, int blur) {
        if (noWord(v) || noWord(w) || out(blur, 5)) {
            return BAD;
        }
        return areApart(v, w, blur) ? 1 : 0;
    }

    int until(int v, int w) {
        if (noWord(v) || noWord(w)) {
            return BAD;
        }
        for (int blur = 0; blur <= 5; blur++) {
            if (!areApart(v, w, blur)) {
                return blur;
            }
        }
        return NONE;
    }

    int cut(int ask, int blur, int what) {
        if (ask != NONE && noAsk(ask) || out(blur, 5) || out(what, 2)) {
            return BAD;
        }
        List<Integer> among = new ArrayList<>();
        for (int w = 0; w < tongue.words.size(); w++) {
            if (ask == NONE || tongue.asks.get(ask).contains(w)) {
                among.add(w);
            }
        }
        if (what == 2) {
            int pairs = 0;
            for (int v : among) {
                for (int w : among) {
                    pairs += v < w && !areApart(v, w, blur) ? 1 : 0;
                }
            }
            return pairs;
        }
        List<Integer> best = bestCut(among, blur);
        return what == 0 ? best.size() : bits(best);
    }

    /** Every subset is tried. */
    private List<Integer> bestCut(List<Integer> among, int blur) {
        boolean[][] apart = new boolean[16][16];
        for (int v : among) {
            for (int w : among) {
                apart[v][w] = areApart(v, w, blur);
            }
        }
        List<Integer> best = List.of();
        for (int set = 1; set < 1 << among.size(); set++) {
            if (Integer.bitCount(set) < best.size()) {
                continue;
            }
            List<Integer> chosen = new ArrayList<>();
            boolean good = true;
            for (int i = 0; i < among.size() && good; i++) {
                if ((set >> i & 1) != 0) {
                    for (int w : chosen) {
                        good &= apart[w][among.get(i)];
                    }
                    chosen.add(among.get(i));
                }
            }
            if (good && (chosen.size() > best.size() || compare(chosen, best) < 0)) {
                best = chosen;
            }
        }
        return best;
    }

    private static int compare(List<Integer> one, List<Integer> two) {
        return Arrays.compare(one.stream().mapToInt(i -> i).toArray(), two.stream().mapToInt(i -> i).toArray());
    }

    private Set<Integer> meaning(int ask, List<Integer> row, int blur) {
        Set<Integer> found = new HashSet<>();
        for (int w : tongue.asks.get(ask)) {
            if (row(w, blur).equals(row)) {
                found.add(w);
            }
        }
        return found;
    }

    /** The machine's own faults are what is asked for here. */
    private int machineFault(Runnable run) {
        try {
            run.run();
            return 0;
        } catch (NullPointerException e) {
            return 1;
        } catch (ArrayIndexOutOfBoundsException e) {
            return 2;
        } catch (ClassCastException e) {
            return 3;
        } catch (NegativeArraySizeException e) {
            return 4;
        }
    }

    int means(int ask, int blur, int k, int lane, int f, int n) {
        if (noAsk(ask) || out(blur, 5) || out(k, 3) || out(lane, 2) || out(n, 8)) {
            return BAD;
        }
        List<Integer> row = new ArrayList<>();
        int found = machineFault(() -> {
            byte[] bytes = lane == 0 ? (byte[]) sheets[k] : null;
            short[] shorts = lane == 1 ? (short[]) sheets[k] : null;
            int[] ints = lane == 2 ? (int[]) sheets[k] : null;
            if (sheets[k] == null) {
                throw new NullPointerException();
            }
            for (int i = 0; i < n; i++) {
                row.add(lane == 0 ? bytes[f + i] : lane == 1 ? shorts[f + i] : ints[f + i]);
            }
        });
        return found != 0 ? -10 - found : bits(meaning(ask, row, blur));
    }

    int both(int ask, int w, int one, int two) {
        if (unfit(ask, w) || out(one, 5) || out(two, 5)) {
            return BAD;
        }
        Set<Integer> meant = meaning(ask, row(w, one), one);
        meant.retainAll(meaning(ask, row(w, two), two));
        return bits(meant);
    }

    int sure(int ask, int w) {
        if (unfit(ask, w)) {
            return BAD;
        }
        int most = NONE;
        for (int blur = 0; blur <= 5; blur++) {
            if (meaning(ask, row(w, blur), blur).size() == 1) {
                most = blur;
            }
        }
        return most;
    }

    // ---- the land

    int place(int x, int y, int height) {
        if (out(x, 99) || out(y, 99) || out(height, 99)) {
            return BAD;
        }
        if (places.size() == 10) {
            return FULL;
        }
        places.add(new Place(x, y, height));
        return places.size() - 1;
    }

    int ridge(int x, int height) {
        if (out(x, 99) || out(height, 99)) {
            return BAD;
        }
        if (ridges.size() == 6) {
            return FULL;
        }
        ridges.add(new Ridge(x, height));
        return ridges.size();
    }

    int sheet(int k, int lane, int n) {
        if (out(k, 3) || out(lane, 2) || n > 60) {
            return BAD;
        }
        int found = machineFault(() -> sheets[k] = lane == 0 ? new byte[n] : lane == 1 ? new short[n] : new int[n]);
        return found != 0 ? -10 - found : 1;
    }

    int lay(int k, int i, int v) {
        if (out(k, 3)) {
            return BAD;
        }
        int found = machineFault(() -> {
            if (sheets[k] instanceof byte[] bytes) {
                bytes[i] = (byte) v;
            } else if (sheets[k] instanceof short[] shorts) {
                shorts[i] = (short) v;
            } else {
                ((int[]) sheets[k])[i] = v;
            }
        });
        return found != 0 ? -10 - found : 1;
    }

    int wind(int hour, int what) {
        if (out(hour, 23) || out(what, 1)) {
            return -10;
        }
        int[] cell = {0};
        int found = machineFault(() -> cell[0] = ((byte[]) sheets[0])[hour]);
        if (what == 1) {
            return found;
        }
        return found != 0 ? 9 : cell[0] > 2 ? 2 : cell[0] < -2 ? -2 : cell[0];
    }

    private boolean noPlace(int p) {
        return p < 0 || p >= places.size();
    }

    int blur(int a, int b, int hour) {
        if (noPlace(a) || noPlace(b) || out(hour, 23)) {
            return BAD;
        }
        if (a == b) {
            return 0;
        }
        Place from = places.get(a);
        Place to = places.get(b);
        int blur = (Math.abs(from.x - to.x) + Math.abs(from.y - to.y)) / 20;
        for (Ridge r : ridges) {
            boolean between = from.x < r.x && r.x <= to.x || to.x < r.x && r.x <= from.x;
            if (between && r.height > from.height && r.height > to.height) {
                blur += 2;
            } else if (between && (r.height > from.height || r.height > to.height)) {
                blur += 1;
            }
        }
        if (wind(hour, 1) != 0) {
            blur += 2;
        } else if (to.x > from.x) {
            blur -= wind(hour, 0);
        } else if (to.x < from.x) {
            blur += wind(hour, 0);
        }
        return Math.max(blur, 0);
    }

    private Set<Integer> hearers(int a, int hour) {
        Set<Integer> found = new HashSet<>();
        for (int p = 0; p < places.size(); p++) {
            if (p != a && blur(a, p, hour) <= 5) {
                found.add(p);
            }
        }
        return found;
    }

    int hears(int a, int hour, int what) {
        if (noPlace(a) || out(hour, 23) || out(what, 2)) {
            return BAD;
        }
        if (what == 1) {
            int found = 0;
            for (int p = 0; p < places.size(); p++) {
                found += p != a && hearers(p, hour).contains(a) ? 1 : 0;
            }
            return found;
        }
        return what == 0 ? hearers(a, hour).size() : bits(hearers(a, hour));
    }

    private List<Integer> bestWay;
    private int bestBlur;

    /** Every way without a PLACE twice is tried. */
    private void tryWays(List<Integer> way, int most, int b, int hour) {
        int last = way.get(way.size() - 1);
        if (last == b) {
            boolean better = bestWay == null || most < bestBlur
                    || most == bestBlur && way.size() < bestWay.size()
                    || most == bestBlur && way.size() == bestWay.size() && compare(way, bestWay) < 0;
            if (better) {
                bestWay = List.copyOf(way);
                bestBlur = most;
            }
            return;
        }
        for (int p = 0; p < places.size(); p++) {
            if (!way.contains(p) && blur(last, p, hour) <= 5) {
                way.add(p);
                tryWays(way, Math.max(most, blur(last, p, hour)), b, hour);
                way.remove(way.size() - 1);
            }
        }
    }

    int way(int a, int b, int hour, int what) {
        if (noPlace(a) || noPlace(b) || a == b || out(hour, 23) || what < 0 || what > 1 && what < 10) {
            return BAD;
        }
        bestWay = null;
        tryWays(new ArrayList<>(Collections.singleton(a)), 0, b, hour);
        if (bestWay == null) {
            return NONE;
        }
        if (what < 2) {
            return what == 0 ? bestBlur : bestWay.size();
        }
        return what - 10 < bestWay.size() ? bestWay.get(what - 10) : NONE;
    }

    // ---- calls

    private boolean noCall(int c) {
        return c < 0 || c >= calls.size();
    }

    int call(int day, int hour, int from, int ask, int w, int repeat) {
        if (out(day, 99) || out(hour, 23) || noPlace(from) || unfit(ask, w)) {
            return BAD;
        }
        if (repeat != NONE) {
            if (noCall(repeat)) {
                return BAD;
            }
            Call r = calls.get(repeat);
            if (r.from != from || r.ask != ask || r.word != w || r.repeat != NONE) {
                return BAD;
            }
        }
        if (!calls.isEmpty()) {
            Call latest = calls.get(calls.size() - 1);
            if (day < latest.day || day == latest.day && hour < latest.hour) {
                return STATE;
            }
        }
        if (calls.size() == 30) {
            return FULL;
        }
        calls.add(new Call(day, hour, from, ask, w, repeat));
        return calls.size() - 1;
    }

    private boolean isFalse(int c) {
        return lies.contains(c) || lies.contains(calls.get(c).repeat);
    }

    int callOf(int c, int what) {
        if (noCall(c) || out(what, 8)) {
            return BAD;
        }
        Call call = calls.get(c);
        Set<Integer> hearers = hearers(call.from, call.hour);
        int sure = 0;
        for (int p : hearers) {
            int blur = blur(call.from, p, call.hour);
            sure += meaning(call.ask, row(call.word, blur), blur).size() == 1 ? 1 : 0;
        }
        int[] answers = {call.day, call.hour, call.from, call.ask, call.word, call.repeat, isFalse(c) ? 1 : 0, hearers.size(), sure};
        return answers[what];
    }

    int lie(int c, boolean is) {
        if (noCall(c)) {
            return BAD;
        }
        if (calls.get(c).repeat != NONE) {
            return STATE;
        }
        int was = lies.contains(c) ? 1 : 0;
        if (is) {
            lies.add(c);
        } else {
            lies.remove(c);
        }
        return was;
    }

    /** By CALLS ahead of a number; null if it HEARS none of them. */
    private Set<Integer> hasBy(int place, int first, int ahead) {
        Set<Integer> together = null;
        for (int c = 0; c < ahead; c++) {
            Call call = calls.get(c);
            boolean one = c == first || call.repeat == first;
            if (one && call.from != place && blur(call.from, place, call.hour) <= 5) {
                int blur = blur(call.from, place, call.hour);
                Set<Integer> meant = meaning(call.ask, row(call.word, blur), blur);
                if (together == null) {
                    together = meant;
                } else {
                    together.retainAll(meant);
                }
            }
        }
        return together;
    }

    private Set<Integer> knowsBy(int place, int ask, int ahead) {
        Set<Integer> known = new HashSet<>();
        for (int c = 0; c < ahead; c++) {
            Call call = calls.get(c);
            if (call.ask != ask || isFalse(c)) {
                continue;
            }
            if (call.from == place) {
                known.add(call.word);
            } else if (call.repeat == NONE) {
                Set<Integer> has = hasBy(place, c, ahead);
                if (has != null && has.size() == 1) {
                    known.addAll(has);
                }
            }
        }
        return known;
    }

    private int ahead(int day, int hour) {
        return (int) calls.stream().filter(c -> c.day < day || c.day == day && c.hour <= hour).count();
    }

    int has(int place, int c, int day, int hour) {
        if (noPlace(place) || noCall(c) || out(day, 99) || out(hour, 23)) {
            return BAD;
        }
        if (calls.get(c).repeat != NONE) {
            return STATE;
        }
        Set<Integer> has = hasBy(place, c, ahead(day, hour));
        return has == null ? NONE : bits(has);
    }

    int knows(int place, int ask, int day, int hour) {
        if (noPlace(place) || noAsk(ask) || out(day, 99) || out(hour, 23)) {
            return BAD;
        }
        return bits(knowsBy(place, ask, ahead(day, hour)));
    }

    int since(int place, int ask, int w) {
        if (noPlace(place) || unfit(ask, w)) {
            return BAD;
        }
        for (int c = 0; c < calls.size(); c++) {
            if (knowsBy(place, ask, c + 1).contains(w)) {
                return c;
            }
        }
        return NONE;
    }

    int spread(int ask, int w, int day, int hour, int what) {
        if (unfit(ask, w) || out(day, 99) || out(hour, 23) || out(what, 1)) {
            return BAD;
        }
        List<Integer> found = new ArrayList<>();
        for (int p = 0; p < places.size(); p++) {
            if (knowsBy(p, ask, ahead(day, hour)).contains(w)) {
                found.add(p);
            }
        }
        return what == 0 ? found.size() : bits(found);
    }

    // ---- children

    int child() {
        if (children.size() == 4) {
            return FULL;
        }
        children.add(new HashSet<>());
        return children.size() - 1;
    }

    private boolean noChild(int c) {
        return c < 0 || c >= children.size();
    }

    int learn(int c, int v, int w) {
        if (noChild(c) || noWord(v) || noWord(w) || v == w) {
            return BAD;
        }
        return children.get(c).add(Set.of(v, w)) ? 1 : 0;
    }

    private boolean confuses(int c, int v, int w) {
        if (v == w || children.get(c).contains(Set.of(v, w))) {
            return false;
        }
        List<Integer> one = tongue.words.get(v).speech;
        List<Integer> two = tongue.words.get(w).speech;
        if (one.size() != two.size()) {
            return false;
        }
        int unlike = 0;
        for (int i = 0; i < one.size(); i++) {
            unlike += one.get(i).equals(two.get(i)) ? 0 : 1;
        }
        return unlike == 1;
    }

    int childOf(int c, int what) {
        if (noChild(c)) {
            return BAD;
        }
        int words = tongue.words.size();
        int[] group = new int[words];
        int pairs = 0;
        for (int w = 0; w < words; w++) {
            group[w] = w;
        }
        for (int v = 0; v < words; v++) {
            for (int w = v + 1; w < words; w++) {
                if (confuses(c, v, w)) {
                    pairs++;
                    int less = Math.min(group[v], group[w]);
                    int greater = Math.max(group[v], group[w]);
                    for (int u = 0; u < words; u++) {
                        group[u] = group[u] == greater ? less : group[u];
                    }
                }
            }
        }
        if (what == 0) {
            return children.get(c).size();
        }
        if (what == 1) {
            return pairs;
        }
        if (what == 2) {
            return (int) Arrays.stream(group).distinct().count();
        }
        if (what == 3) {
            int most = 0;
            for (int g = 0; g < words; g++) {
                int least = g;
                most = Math.max(most, (int) Arrays.stream(group).filter(x -> x == least).count());
            }
            return most;
        }
        return what >= 10 && !noWord(what - 10) ? group[what - 10] : BAD;
    }

    int lessons(int c, int ask) {
        if (noChild(c) || noAsk(ask)) {
            return BAD;
        }
        int found = 0;
        for (int v : tongue.asks.get(ask)) {
            for (int w : tongue.asks.get(ask)) {
                found += v < w && confuses(c, v, w) ? 1 : 0;
            }
        }
        return found;
    }

    int count(int what) {
        switch (what) {
            case 0:
                return tongue.words.size();
            case 1:
                return tongue.asks.size();
            case 2:
                return tongue.letters.size();
            case 3:
                return places.size();
            case 4:
                return ridges.size();
            case 5:
                return calls.size();
            case 6:
                int found = 0;
                for (int c = 0; c < calls.size(); c++) {
                    found += isFalse(c) ? 1 : 0;
                }
                return found;
            case 7:
                return children.size();
            case 8:
                return tape.length();
            case 9:
                return sheets[0] == null ? NONE : java.lang.reflect.Array.getLength(sheets[0]);
            default:
                return BAD;
        }
    }
}
