import java.util.Arrays;

/** Words across a gorge: a whistled tongue, the land it crosses, the calls in it and the children who learn it. */
public final class WhistledWords {
    public static final int BAD = -1, STATE = -2, FULL = -3, NONE = -4;

    private static final int MAX_WORDS = 16, MAX_ASKS = 6, MAX_MARKS = 8, BLURS = 6, MOST_BLUR = 5;
    private static final int MAX_PLACES = 10, MAX_RIDGES = 6, MAX_CALLS = 30, MAX_CHILDREN = 4;
    private static final int DAYS = 100, HOURS = 24, MEASURES = 100;
    private static final int UNKNOWN_WIND = 9, BAD_WIND = -10, FAULT_BASE = -10;
    private static final int FAULT_NULL = 1, FAULT_INDEX = 2, FAULT_CAST = 3, FAULT_SIZE = 4;

    private final Tape tape;
    private final TextReader reader;
    private final Sheets sheets;
    private final Land land;
    private final Book book;
    private final Nursery nursery;
    private Tongue told;
    private int latestFault;

    public WhistledWords() {
        tape = new Tape();
        reader = new TextReader(tape);
        sheets = new Sheets();
        land = new Land(sheets);
        book = new Book(land);
        nursery = new Nursery();
        told = new Tongue();
        latestFault = 0;
    }

    // ---- the tongue

    public int feed(long v) {
        return tape.addEight(v) ? tape.size : FULL;
    }

    public int end(int n) {
        int had = tape.size;
        if (n < 0 || n > had) {
            return BAD;
        }
        tape.size = n;
        return had;
    }

    public int tongue() {
        if (book.size > 0 || nursery.size > 0) {
            return STATE;
        }
        boolean taken = reader.readText();
        tape.size = 0;
        latestFault = reader.fault;
        if (!taken) {
            return FAULT_BASE - reader.faultPlace;
        }
        Tongue old = told;
        told = reader.draft;
        reader.draft = old;
        told.settle();
        return told.words;
    }

    public int fault() {
        return latestFault;
    }

    public int word(int w, int what) {
        if (!told.isWord(w)) {
            return BAD;
        }
        switch (what) {
            case 0:
                return told.spelled[w];
            case 1:
                return Row.length(told.rows[w]);
            case 2:
                return Row.heights(told.rows[w]);
            case 3:
                return told.asksWith(w);
            default:
                return what < 10 ? BAD : orBad(Row.markAt(told.rows[w], what - 10));
        }
    }

    public int ask(int a, int what) {
        if (!told.isAsk(a) || what < 0 || what > 1) {
            return BAD;
        }
        return what == 0 ? Integer.bitCount(told.asks[a]) : told.asks[a];
    }

    public int blurred(int w, int blur, int i) {
        if (!told.isWord(w) || !isBlur(blur) || i < 0) {
            return BAD;
        }
        return Row.markAt(told.rowAt(blur, w), i);
    }

    public int apart(int v, int w, int blur) {
        if (!told.isWord(v) || !told.isWord(w) || !isBlur(blur)) {
            return BAD;
        }
        return told.areAlike(v, w, blur) ? 0 : 1;
    }

    public int until(int v, int w) {
        if (!told.isWord(v) || !told.isWord(w)) {
            return BAD;
        }
        for (int blur = 0; blur < BLURS; blur++) {
            if (told.areAlike(v, w, blur)) {
                return blur;
            }
        }
        return NONE;
    }

    public int cut(int ask, int blur, int what) {
        boolean ofAll = ask == NONE;
        if ((!ofAll && !told.isAsk(ask)) || !isBlur(blur)) {
            return BAD;
        }
        int among = ofAll ? told.allWords() : told.asks[ask];
        switch (what) {
            case 0:
                return Integer.bitCount(told.cutOf(among, blur));
            case 1:
                return told.cutOf(among, blur);
            case 2:
                return told.alikePairs(among, blur);
            default:
                return BAD;
        }
    }

    public int means(int ask, int blur, int k, int lane, int f, int n) {
        if (!told.isAsk(ask) || !isBlur(blur) || !Sheets.isSheet(k) || !Sheets.isLane(lane)
                || n < 0 || n > MAX_MARKS) {
            return BAD;
        }
        int found = sheets.faultOfRow(k, lane, f, n);
        if (found != 0) {
            return FAULT_BASE - found;
        }
        long row = 0;
        for (int i = 0; i < n; i++) {
            int mark = sheets.cellAt(k, f + i);
            if (!Row.isMark(mark)) {
                return 0;
            }
            row = Row.with(row, i, mark);
        }
        return told.meantBy(ask, blur, row);
    }

    public int both(int ask, int w, int one, int two) {
        if (!told.fits(ask, w) || !isBlur(one) || !isBlur(two)) {
            return BAD;
        }
        return told.heardAs(ask, w, one) & told.heardAs(ask, w, two);
    }

    public int sure(int ask, int w) {
        if (!told.fits(ask, w)) {
            return BAD;
        }
        for (int blur = MOST_BLUR; blur >= 0; blur--) {
            if (told.isSure(ask, w, blur)) {
                return blur;
            }
        }
        return NONE;
    }

    // ---- the land

    public int place(int x, int y, int height) {
        if (!isMeasure(x) || !isMeasure(y) || !isMeasure(height)) {
            return BAD;
        }
        return land.addPlace(x, y, height) ? land.places - 1 : FULL;
    }

    public int ridge(int x, int height) {
        if (!isMeasure(x) || !isMeasure(height)) {
            return BAD;
        }
        return land.addRidge(x, height) ? land.ridges : FULL;
    }

    public int sheet(int k, int lane, int n) {
        if (!Sheets.isSheet(k) || !Sheets.isLane(lane) || n > Sheets.MAX_CELLS) {
            return BAD;
        }
        if (n < 0) {
            return FAULT_BASE - FAULT_SIZE;
        }
        sheets.renew(k, lane, n);
        return 1;
    }

    public int lay(int k, int i, int v) {
        if (!Sheets.isSheet(k)) {
            return BAD;
        }
        int found = sheets.faultOfRow(k, sheets.lanes[k], i, 1);
        if (found != 0) {
            return FAULT_BASE - found;
        }
        sheets.put(k, i, v);
        return 1;
    }

    public int wind(int hour, int what) {
        if (!isHour(hour) || what < 0 || what > 1) {
            return BAD_WIND;
        }
        return what == 0 ? sheets.windAt(hour) : sheets.faultOfWind(hour);
    }

    public int blur(int a, int b, int hour) {
        if (!land.isPlace(a) || !land.isPlace(b) || !isHour(hour)) {
            return BAD;
        }
        return land.blurFrom(a, b, hour);
    }

    public int hears(int a, int hour, int what) {
        if (!land.isPlace(a) || !isHour(hour)) {
            return BAD;
        }
        switch (what) {
            case 0:
                return Integer.bitCount(land.hearersOf(a, hour));
            case 1:
                return Integer.bitCount(land.heardFrom(a, hour));
            case 2:
                return land.hearersOf(a, hour);
            default:
                return BAD;
        }
    }

    public int way(int a, int b, int hour, int what) {
        if (!land.isPlace(a) || !land.isPlace(b) || a == b || !isHour(hour)) {
            return BAD;
        }
        if (what < 0 || (what > 1 && what < 10)) {
            return BAD;
        }
        if (!land.findWay(a, b, hour)) {
            return NONE;
        }
        if (what == 0) {
            return land.wayBlur;
        }
        if (what == 1) {
            return land.wayLength;
        }
        return what - 10 < land.wayLength ? land.way[what - 10] : NONE;
    }

    // ---- calls

    public int call(int day, int hour, int from, int ask, int w, int repeat) {
        if (!isTime(day, hour) || !land.isPlace(from) || !told.fits(ask, w)) {
            return BAD;
        }
        if (repeat != NONE && !book.mayRepeat(repeat, from, ask, w)) {
            return BAD;
        }
        int time = timeOf(day, hour);
        if (book.size > 0 && time < book.times[book.size - 1]) {
            return STATE;
        }
        if (book.size >= MAX_CALLS) {
            return FULL;
        }
        book.add(time, from, ask, w, repeat);
        return book.size - 1;
    }

    public int callOf(int c, int what) {
        if (!book.isCall(c)) {
            return BAD;
        }
        switch (what) {
            case 0:
                return book.times[c] / HOURS;
            case 1:
                return book.times[c] % HOURS;
            case 2:
                return book.froms[c];
            case 3:
                return book.asks[c];
            case 4:
                return book.words[c];
            case 5:
                return book.firsts[c] == c ? NONE : book.firsts[c];
            case 6:
                return book.isFalse(c) ? 1 : 0;
            case 7:
                return Integer.bitCount(land.hearersOf(book.froms[c], book.times[c] % HOURS));
            case 8:
                return book.sureHearers(c, told);
            default:
                return BAD;
        }
    }

    public int lie(int c, boolean is) {
        if (!book.isCall(c)) {
            return BAD;
        }
        if (book.isRepeat(c)) {
            return STATE;
        }
        int was = book.isFalse(c) ? 1 : 0;
        book.lies[c] = is;
        return was;
    }

    public int has(int place, int c, int day, int hour) {
        if (!land.isPlace(place) || !book.isCall(c) || !isTime(day, hour)) {
            return BAD;
        }
        if (book.isRepeat(c)) {
            return STATE;
        }
        return book.heldFrom(place, c, book.callsUpTo(timeOf(day, hour)), told);
    }

    public int knows(int place, int ask, int day, int hour) {
        if (!land.isPlace(place) || !told.isAsk(ask) || !isTime(day, hour)) {
            return BAD;
        }
        return book.knownTo(place, ask, book.callsUpTo(timeOf(day, hour)), told);
    }

    public int since(int place, int ask, int w) {
        if (!land.isPlace(place) || !told.fits(ask, w)) {
            return BAD;
        }
        return book.firstKnown(place, ask, w, told);
    }

    public int spread(int ask, int w, int day, int hour, int what) {
        if (!told.fits(ask, w) || !isTime(day, hour) || what < 0 || what > 1) {
            return BAD;
        }
        int calls = book.callsUpTo(timeOf(day, hour));
        int knowing = 0;
        for (int p = 0; p < land.places; p++) {
            if (isIn(book.knownTo(p, ask, calls, told), w)) {
                knowing |= 1 << p;
            }
        }
        return what == 0 ? Integer.bitCount(knowing) : knowing;
    }

    // ---- children

    public int child() {
        if (nursery.size >= MAX_CHILDREN) {
            return FULL;
        }
        nursery.size++;
        return nursery.size - 1;
    }

    public int learn(int c, int v, int w) {
        if (!nursery.isChild(c) || !told.isWord(v) || !told.isWord(w) || v == w) {
            return BAD;
        }
        return nursery.teach(c, v, w) ? 1 : 0;
    }

    public int childOf(int c, int what) {
        if (!nursery.isChild(c)) {
            return BAD;
        }
        switch (what) {
            case 0:
                return nursery.learnedPairs(c);
            case 1:
                return nursery.confusedPairs(c, told.allWords(), told);
            case 2:
                return nursery.groups(c, told);
            case 3:
                return nursery.greatestGroup(c, told);
            default:
                // what below 10 first, so that the difference can't wrap around to a WORD.
                if (what < 10 || !told.isWord(what - 10)) {
                    return BAD;
                }
                return Integer.numberOfTrailingZeros(nursery.groupWith(c, what - 10, told));
        }
    }

    public int lessons(int c, int ask) {
        if (!nursery.isChild(c) || !told.isAsk(ask)) {
            return BAD;
        }
        return nursery.confusedPairs(c, told.asks[ask], told);
    }

    public int count(int what) {
        switch (what) {
            case 0:
                return told.words;
            case 1:
                return told.askCount;
            case 2:
                return told.letters;
            case 3:
                return land.places;
            case 4:
                return land.ridges;
            case 5:
                return book.size;
            case 6:
                return book.falseOnes();
            case 7:
                return nursery.size;
            case 8:
                return tape.size;
            case 9:
                return sheets.sizes[0] == Sheets.NOTHING ? NONE : sheets.sizes[0];
            default:
                return BAD;
        }
    }

    private static int orBad(int answer) {
        return answer == NONE ? BAD : answer;
    }

    private static boolean isBlur(int blur) {
        return blur >= 0 && blur < BLURS;
    }

    private static boolean isHour(int hour) {
        return hour >= 0 && hour < HOURS;
    }

    private static boolean isTime(int day, int hour) {
        return day >= 0 && day < DAYS && isHour(hour);
    }

    private static int timeOf(int day, int hour) {
        return day * HOURS + hour;
    }

    private static boolean isMeasure(int v) {
        return v >= 0 && v < MEASURES;
    }

    private static boolean isIn(int bits, int i) {
        return (bits >> i & 1) != 0;
    }

    /** THE TAPE: bytes that wait to be told as a text. */
    private static final class Tape {
        static final int ROOM = 400;
        static final int BYTES_OF_LONG = 8;

        final byte[] bytes;
        int size;

        Tape() {
            bytes = new byte[ROOM];
            size = 0;
        }

        boolean addEight(long v) {
            if (size > ROOM - BYTES_OF_LONG) {
                return false;
            }
            for (int i = 0; i < BYTES_OF_LONG; i++) {
                bytes[size + i] = (byte) (v >> 56 - 8 * i);
            }
            size += BYTES_OF_LONG;
            return true;
        }
    }

    /** Rows of up to eight MARKS, each row in one long: five bits a MARK, holding one more than it, so that 0 ends the row. */
    private static final class Row {
        static final int STOP = 16, GLIDE = 20;
        static final int MARK_BITS = 5, MARK_MASK = 31;

        private Row() {
        }

        static boolean isMark(int mark) {
            return mark >= 0 && mark <= GLIDE;
        }

        static long with(long row, int i, int mark) {
            return row | (long) (mark + 1) << MARK_BITS * i;
        }

        static int markAt(long row, int i) {
            if (i < 0 || i >= MAX_MARKS) {
                return NONE;
            }
            int held = (int) (row >>> MARK_BITS * i) & MARK_MASK;
            return held == 0 ? NONE : held - 1;
        }

        static int length(long row) {
            int length = 0;
            while (length < MAX_MARKS && markAt(row, length) != NONE) {
                length++;
            }
            return length;
        }

        static int heights(long row) {
            int heights = 0;
            int marks = length(row);
            for (int i = 0; i < marks; i++) {
                if (markAt(row, i) < STOP) {
                    heights++;
                }
            }
            return heights;
        }

        static int blurMark(int mark, int blur) {
            if (mark < STOP) {
                return mark >> blur;
            }
            if (blur >= 4) {
                return NONE;
            }
            boolean kept = mark == GLIDE ? blur < 3 : blur < 2;
            return kept ? mark : STOP;
        }

        static long blurRow(long speech, int blur) {
            long row = 0;
            int length = 0;
            int last = NONE;
            int marks = length(speech);
            for (int i = 0; i < marks; i++) {
                int mark = blurMark(markAt(speech, i), blur);
                boolean merges = blur >= 3 && mark == last;
                if (mark != NONE && !merges) {
                    row = with(row, length, mark);
                    length++;
                    last = mark;
                }
            }
            return row;
        }

        static boolean differInOne(long one, long two) {
            if (length(one) != length(two)) {
                return false;
            }
            int differing = 0;
            for (int i = 0; i < MAX_MARKS; i++) {
                if (markAt(one, i) != markAt(two, i)) {
                    differing++;
                }
            }
            return differing == 1;
        }
    }

    /** LETTERS, WORDS and ASKS, with the WORDS' rows at every BLUR. */
    private static final class Tongue {
        static final int ALPHABET = 26;
        static final int UNTOLD = -1, MUTE = -2;

        final int[] letterMarks;
        final long[] names;
        final int[] spelled;
        // At BLUR b the row of WORD w, and the WORDS with that same row, stand at b * 16 + w.
        final long[] rows;
        final int[] alike;
        final int[] near;
        final int[] asks;
        int letters;
        int words;
        int askCount;

        Tongue() {
            letterMarks = new int[ALPHABET];
            Arrays.fill(letterMarks, UNTOLD);
            names = new long[MAX_WORDS];
            spelled = new int[MAX_WORDS];
            rows = new long[BLURS * MAX_WORDS];
            alike = new int[BLURS * MAX_WORDS];
            near = new int[MAX_WORDS];
            asks = new int[MAX_ASKS];
            letters = 0;
            words = 0;
            askCount = 0;
        }

        void forget() {
            Arrays.fill(letterMarks, UNTOLD);
            letters = 0;
            words = 0;
            askCount = 0;
        }

        void tellLetter(int letter, int mark) {
            letterMarks[letter] = mark;
            letters++;
        }

        boolean hasName(long name) {
            for (int w = 0; w < words; w++) {
                if (names[w] == name) {
                    return true;
                }
            }
            return false;
        }

        void tellWord(long name, int length, long speech) {
            names[words] = name;
            spelled[words] = length;
            rows[words] = speech;
            words++;
        }

        void tellAsk(int fitting) {
            asks[askCount] = fitting;
            askCount++;
        }

        /** Works out the rows and what is alike once a text, as most calls ask for them. */
        void settle() {
            for (int blur = 1; blur < BLURS; blur++) {
                for (int w = 0; w < words; w++) {
                    rows[blur * MAX_WORDS + w] = Row.blurRow(rows[w], blur);
                }
            }
            for (int blur = 0; blur < BLURS; blur++) {
                for (int w = 0; w < words; w++) {
                    alike[blur * MAX_WORDS + w] = withRow(blur, rowAt(blur, w));
                }
            }
            for (int w = 0; w < words; w++) {
                near[w] = differingInOneFrom(w);
            }
        }

        int withRow(int blur, long row) {
            int found = 0;
            for (int w = 0; w < words; w++) {
                if (rowAt(blur, w) == row) {
                    found |= 1 << w;
                }
            }
            return found;
        }

        int differingInOneFrom(int w) {
            int found = 0;
            for (int v = 0; v < words; v++) {
                if (Row.differInOne(rows[v], rows[w])) {
                    found |= 1 << v;
                }
            }
            return found;
        }

        boolean isWord(int w) {
            return w >= 0 && w < words;
        }

        boolean isAsk(int a) {
            return a >= 0 && a < askCount;
        }

        boolean fits(int a, int w) {
            return isAsk(a) && isWord(w) && isIn(asks[a], w);
        }

        int allWords() {
            return (1 << words) - 1;
        }

        int asksWith(int w) {
            int found = 0;
            for (int a = 0; a < askCount; a++) {
                if (isIn(asks[a], w)) {
                    found++;
                }
            }
            return found;
        }

        long rowAt(int blur, int w) {
            return rows[blur * MAX_WORDS + w];
        }

        int alikeTo(int w, int blur) {
            return alike[blur * MAX_WORDS + w];
        }

        boolean areAlike(int v, int w, int blur) {
            return rowAt(blur, v) == rowAt(blur, w);
        }

        int meantBy(int a, int blur, long row) {
            return asks[a] & withRow(blur, row);
        }

        /** What the row of a WORD at a BLUR MEANS for an ask. */
        int heardAs(int a, int w, int blur) {
            return asks[a] & alikeTo(w, blur);
        }

        boolean isSure(int a, int w, int blur) {
            return Integer.bitCount(heardAs(a, w, blur)) == 1;
        }

        /** To be alike parts the WORDS into classes, so the least WORD of each class makes the CUT. */
        int cutOf(int among, int blur) {
            int kept = 0;
            for (int w = 0; w < words; w++) {
                if (isIn(among, w) && (alikeTo(w, blur) & kept) == 0) {
                    kept |= 1 << w;
                }
            }
            return kept;
        }

        int alikePairs(int among, int blur) {
            int ends = 0;
            for (int w = 0; w < words; w++) {
                if (isIn(among, w)) {
                    ends += Integer.bitCount(alikeTo(w, blur) & among) - 1;
                }
            }
            return ends / 2;
        }
    }

    /** Reads THE TAPE as a text; each step answers whether it went well, else the FAULT and its place are kept. */
    private static final class TextReader {
        static final int END = 0, NAME = 1, NUMBER = 2, SEMICOLON = 3, COMMA = 4, BROKEN = 5;
        static final int NO_TOKEN = 1, MISPLACED = 2, OUT_OF_BOUNDS = 3, TOLD_ALREADY = 4, NO_WORD = 5, TOO_MANY = 6;
        static final int HEIGHTS = 16, KINDS = 4, MOST_FIGURES = 2;

        final Tape tape;
        // Apart from the tongue that is told, so that a text with a FAULT leaves that one as it is.
        Tongue draft;
        int fault;
        int faultPlace;
        private int kind;
        private int start;
        private int at;
        private int number;

        TextReader(Tape source) {
            tape = source;
            draft = new Tongue();
        }

        boolean readText() {
            draft.forget();
            fault = 0;
            faultPlace = 0;
            at = 0;
            // A line takes a byte at least.
            for (int lines = 0; lines <= Tape.ROOM; lines++) {
                readToken();
                if (kind == END) {
                    return true;
                }
                if (!readLine()) {
                    return false;
                }
            }
            return refuse(MISPLACED);
        }

        /** What is no TOKEN is refused as such, whatever was to stand there. */
        private boolean refuse(int why) {
            fault = kind == BROKEN ? NO_TOKEN : why;
            faultPlace = start;
            return false;
        }

        private boolean expect(int wanted) {
            readToken();
            return kind == wanted || refuse(MISPLACED);
        }

        private boolean readLine() {
            if (kind != NAME) {
                return refuse(MISPLACED);
            }
            if (spells("high")) {
                return readNumberedLetter(0, HEIGHTS);
            }
            if (spells("stop")) {
                return readNumberedLetter(Row.STOP, KINDS);
            }
            if (spells("glide")) {
                return readPlainLetter(Row.GLIDE);
            }
            if (spells("mute")) {
                return readPlainLetter(Tongue.MUTE);
            }
            if (spells("word")) {
                return readWord();
            }
            if (spells("ask")) {
                return readAsk();
            }
            return refuse(MISPLACED);
        }

        private boolean readNumberedLetter(int base, int bound) {
            if (!readNewLetter()) {
                return false;
            }
            int letter = letterAt(start);
            if (!expect(NUMBER)) {
                return false;
            }
            if (number >= bound) {
                return refuse(OUT_OF_BOUNDS);
            }
            draft.tellLetter(letter, base + number);
            return expect(SEMICOLON);
        }

        private boolean readPlainLetter(int mark) {
            if (!readNewLetter()) {
                return false;
            }
            draft.tellLetter(letterAt(start), mark);
            return expect(SEMICOLON);
        }

        private boolean readNewLetter() {
            if (!expect(NAME)) {
                return false;
            }
            if (at - start != 1) {
                return refuse(MISPLACED);
            }
            return draft.letterMarks[letterAt(start)] == Tongue.UNTOLD || refuse(TOLD_ALREADY);
        }

        private boolean readWord() {
            if (draft.words >= MAX_WORDS) {
                return refuse(TOO_MANY);
            }
            if (!expect(NAME)) {
                return false;
            }
            if (at - start > MAX_MARKS || !allLettersTold()) {
                return refuse(NO_WORD);
            }
            long name = nameRead();
            if (draft.hasName(name)) {
                return refuse(TOLD_ALREADY);
            }
            draft.tellWord(name, at - start, speechRead());
            return expect(SEMICOLON);
        }

        private boolean readAsk() {
            if (draft.askCount >= MAX_ASKS) {
                return refuse(TOO_MANY);
            }
            int fitting = 0;
            // Each WORD once: when all had their turn, any further NUMBER is out of bounds.
            for (int turn = 0; turn <= MAX_WORDS; turn++) {
                if (!expect(NUMBER)) {
                    return false;
                }
                if (!draft.isWord(number) || isIn(fitting, number)) {
                    return refuse(OUT_OF_BOUNDS);
                }
                fitting |= 1 << number;
                readToken();
                if (kind == SEMICOLON) {
                    draft.tellAsk(fitting);
                    return true;
                }
                if (kind != COMMA) {
                    return refuse(MISPLACED);
                }
            }
            return refuse(OUT_OF_BOUNDS);
        }

        private boolean allLettersTold() {
            for (int i = start; i < at; i++) {
                if (draft.letterMarks[letterAt(i)] == Tongue.UNTOLD) {
                    return false;
                }
            }
            return true;
        }

        /** The letters of a NAME of at most eight, five bits each. */
        private long nameRead() {
            long name = 0;
            for (int i = start; i < at; i++) {
                name = name * 32 + letterAt(i) + 1;
            }
            return name;
        }

        private long speechRead() {
            long speech = 0;
            int length = 0;
            for (int i = start; i < at; i++) {
                int mark = draft.letterMarks[letterAt(i)];
                if (mark != Tongue.MUTE) {
                    speech = Row.with(speech, length, mark);
                    length++;
                }
            }
            return speech;
        }

        /** Only for a place inside a NAME. */
        private int letterAt(int i) {
            return tape.bytes[i] - 'a';
        }

        private boolean spells(String text) {
            if (at - start != text.length()) {
                return false;
            }
            for (int i = 0; i < text.length(); i++) {
                if (tape.bytes[start + i] != text.charAt(i)) {
                    return false;
                }
            }
            return true;
        }

        private void readToken() {
            while (at < tape.size && tape.bytes[at] == ' ') {
                at++;
            }
            start = at;
            if (at >= tape.size) {
                kind = END;
                return;
            }
            int first = tape.bytes[at];
            at++;
            if (first >= 'a' && first <= 'z') {
                while (at < tape.size && tape.bytes[at] >= 'a' && tape.bytes[at] <= 'z') {
                    at++;
                }
                kind = NAME;
            } else if (first >= '0' && first <= '9') {
                number = first - '0';
                while (at < tape.size && tape.bytes[at] >= '0' && tape.bytes[at] <= '9') {
                    number = number * 10 + tape.bytes[at] - '0';
                    at++;
                }
                kind = at - start > MOST_FIGURES ? BROKEN : NUMBER;
            } else {
                kind = first == ';' ? SEMICOLON : first == ',' ? COMMA : BROKEN;
            }
        }
    }

    /** SHEETS: rows of CELLS of a lane, and the WIND that is read from the first of them. */
    private static final class Sheets {
        static final int SHEETS = 4, MAX_CELLS = 60, NOTHING = -1;
        static final int BYTES = 0, SHORTS = 1, INTS = 2;
        static final int MOST_WIND = 2;

        final int[] lanes;
        final int[] sizes;
        private final int[] cells;

        Sheets() {
            lanes = new int[SHEETS];
            sizes = new int[SHEETS];
            Arrays.fill(sizes, NOTHING);
            cells = new int[SHEETS * MAX_CELLS];
        }

        static boolean isSheet(int k) {
            return k >= 0 && k < SHEETS;
        }

        static boolean isLane(int lane) {
            return lane >= BYTES && lane <= INTS;
        }

        void renew(int k, int lane, int n) {
            lanes[k] = lane;
            sizes[k] = n;
            for (int i = 0; i < n; i++) {
                cells[k * MAX_CELLS + i] = 0;
            }
        }

        /** The FAULT that the machine would find at n CELLS from f on, in its order: NULL, CAST, INDEX. */
        int faultOfRow(int k, int lane, int f, int n) {
            if (sizes[k] == NOTHING) {
                return FAULT_NULL;
            }
            if (lanes[k] != lane) {
                return FAULT_CAST;
            }
            // No CELL is read for n of 0, and f is held against size - n as f + n could wrap around.
            boolean outside = n > 0 && (f < 0 || f > sizes[k] - n);
            return outside ? FAULT_INDEX : 0;
        }

        int cellAt(int k, int i) {
            return cells[k * MAX_CELLS + i];
        }

        void put(int k, int i, int v) {
            int kept = v;
            if (lanes[k] == BYTES) {
                kept = (byte) v;
            } else if (lanes[k] == SHORTS) {
                kept = (short) v;
            }
            cells[k * MAX_CELLS + i] = kept;
        }

        int faultOfWind(int hour) {
            return faultOfRow(0, BYTES, hour, 1);
        }

        int windAt(int hour) {
            if (faultOfRow(0, BYTES, hour, 1) != 0) {
                return UNKNOWN_WIND;
            }
            return Math.max(-MOST_WIND, Math.min(MOST_WIND, cellAt(0, hour)));
        }
    }

    /** PLACES and RIDGES: who HEARS whom, and the WAYS. */
    private static final class Land {
        static final int STEP = 20, UNKNOWN_BLUR = 2, UNREACHED = -1;

        final Sheets sheets;
        final int[] xs;
        final int[] ys;
        final int[] heights;
        final int[] ridgeXs;
        final int[] ridgeHeights;
        final int[] way;
        // For findWay: BLUR from PLACE p to q at p * 10 + q, and the steps from each PLACE to the WAY's end.
        final int[] blurs;
        final int[] steps;
        int places;
        int ridges;
        int wayBlur;
        int wayLength;

        Land(Sheets winds) {
            sheets = winds;
            xs = new int[MAX_PLACES];
            ys = new int[MAX_PLACES];
            heights = new int[MAX_PLACES];
            ridgeXs = new int[MAX_RIDGES];
            ridgeHeights = new int[MAX_RIDGES];
            way = new int[MAX_PLACES];
            blurs = new int[MAX_PLACES * MAX_PLACES];
            steps = new int[MAX_PLACES];
        }

        boolean addPlace(int x, int y, int height) {
            if (places >= MAX_PLACES) {
                return false;
            }
            xs[places] = x;
            ys[places] = y;
            heights[places] = height;
            places++;
            return true;
        }

        boolean addRidge(int x, int height) {
            if (ridges >= MAX_RIDGES) {
                return false;
            }
            ridgeXs[ridges] = x;
            ridgeHeights[ridges] = height;
            ridges++;
            return true;
        }

        boolean isPlace(int p) {
            return p >= 0 && p < places;
        }

        int blurFrom(int a, int b, int hour) {
            if (a == b) {
                return 0;
            }
            int distance = Math.abs(xs[a] - xs[b]) + Math.abs(ys[a] - ys[b]);
            int wind = sheets.windAt(hour);
            int drift = wind == UNKNOWN_WIND ? UNKNOWN_BLUR : Integer.signum(xs[a] - xs[b]) * wind;
            return Math.max(0, distance / STEP + blurOfRidges(a, b) + drift);
        }

        int blurOfRidges(int a, int b) {
            int less = Math.min(xs[a], xs[b]);
            int greater = Math.max(xs[a], xs[b]);
            int sum = 0;
            for (int r = 0; r < ridges; r++) {
                if (ridgeXs[r] > less && ridgeXs[r] <= greater) {
                    sum += ridgeHeights[r] > heights[a] ? 1 : 0;
                    sum += ridgeHeights[r] > heights[b] ? 1 : 0;
                }
            }
            return sum;
        }

        int hearersOf(int a, int hour) {
            int found = 0;
            for (int p = 0; p < places; p++) {
                if (p != a && blurFrom(a, p, hour) <= MOST_BLUR) {
                    found |= 1 << p;
                }
            }
            return found;
        }

        int heardFrom(int a, int hour) {
            int found = 0;
            for (int p = 0; p < places; p++) {
                if (p != a && blurFrom(p, a, hour) <= MOST_BLUR) {
                    found |= 1 << p;
                }
            }
            return found;
        }

        /** Whether there is a WAY: it stands in way, wayLength and wayBlur then. */
        boolean findWay(int a, int b, int hour) {
            measureBlurs(hour);
            for (int most = 0; most <= MOST_BLUR; most++) {
                countSteps(b, most);
                if (steps[a] != UNREACHED) {
                    wayBlur = most;
                    walkWay(a, most);
                    return true;
                }
            }
            return false;
        }

        void measureBlurs(int hour) {
            for (int p = 0; p < places; p++) {
                for (int q = 0; q < places; q++) {
                    blurs[p * MAX_PLACES + q] = blurFrom(p, q, hour);
                }
            }
        }

        void countSteps(int b, int most) {
            Arrays.fill(steps, UNREACHED);
            steps[b] = 0;
            for (int round = 1; round < places; round++) {
                for (int p = 0; p < places; p++) {
                    if (steps[p] == UNREACHED && nextOnWay(p, round - 1, most) != NONE) {
                        steps[p] = round;
                    }
                }
            }
        }

        /** The least PLACE that HEARS p at a BLUR of at most that, and is so many steps from the end. */
        int nextOnWay(int p, int stepsLeft, int most) {
            for (int q = 0; q < places; q++) {
                if (steps[q] == stepsLeft && blurs[p * MAX_PLACES + q] <= most) {
                    return q;
                }
            }
            return NONE;
        }

        void walkWay(int a, int most) {
            wayLength = steps[a] + 1;
            int p = a;
            way[0] = a;
            for (int i = 1; i < wayLength; i++) {
                int next = nextOnWay(p, wayLength - 1 - i, most);
                p = next == NONE ? p : next;
                way[i] = p;
            }
        }
    }

    /** The book of CALLS: what a PLACE HAS from them and KNOWS by them. */
    private static final class Book {
        static final int UNHEARD = -1;

        final Land land;
        final int[] times;
        final int[] froms;
        final int[] asks;
        final int[] words;
        // The CALL that one repeats, or itself.
        final int[] firsts;
        final boolean[] lies;
        // What the PLACE that is asked for HAS so far, by the first CALL.
        final int[] held;
        int size;

        Book(Land where) {
            land = where;
            times = new int[MAX_CALLS];
            froms = new int[MAX_CALLS];
            asks = new int[MAX_CALLS];
            words = new int[MAX_CALLS];
            firsts = new int[MAX_CALLS];
            lies = new boolean[MAX_CALLS];
            held = new int[MAX_CALLS];
        }

        boolean isCall(int c) {
            return c >= 0 && c < size;
        }

        boolean isRepeat(int c) {
            return firsts[c] != c;
        }

        boolean isFalse(int c) {
            return lies[firsts[c]];
        }

        boolean mayRepeat(int c, int from, int ask, int w) {
            return isCall(c) && !isRepeat(c) && froms[c] == from && asks[c] == ask && words[c] == w;
        }

        void add(int time, int from, int ask, int w, int repeat) {
            times[size] = time;
            froms[size] = from;
            asks[size] = ask;
            words[size] = w;
            firsts[size] = repeat == NONE ? size : repeat;
            size++;
        }

        int falseOnes() {
            int found = 0;
            for (int c = 0; c < size; c++) {
                if (isFalse(c)) {
                    found++;
                }
            }
            return found;
        }

        /** CALLS come in the order of their times, so those up to a time are the first so many. */
        int callsUpTo(int time) {
            int calls = 0;
            while (calls < size && times[calls] <= time) {
                calls++;
            }
            return calls;
        }

        /** What a PLACE HAS from one CALL alone, or UNHEARD. */
        int heardBy(int place, int c, Tongue tongue) {
            if (froms[c] == place) {
                return UNHEARD;
            }
            int blur = land.blurFrom(froms[c], place, times[c] % HOURS);
            return blur > MOST_BLUR ? UNHEARD : tongue.heardAs(asks[c], words[c], blur);
        }

        int sureHearers(int c, Tongue tongue) {
            int found = 0;
            for (int p = 0; p < land.places; p++) {
                if (isOneWord(heardBy(p, c, tongue))) {
                    found++;
                }
            }
            return found;
        }

        int heldFrom(int place, int first, int calls, Tongue tongue) {
            int all = UNHEARD;
            for (int c = first; c < calls; c++) {
                if (firsts[c] == first) {
                    // UNHEARD has every bit, so it takes nothing away.
                    all &= heardBy(place, c, tongue);
                }
            }
            return all == UNHEARD ? NONE : all;
        }

        int knownTo(int place, int ask, int calls, Tongue tongue) {
            Arrays.fill(held, UNHEARD);
            int known = 0;
            for (int c = 0; c < calls; c++) {
                if (asks[c] == ask && settlesWord(place, c, tongue)) {
                    known |= 1 << words[c];
                }
            }
            return known;
        }

        int firstKnown(int place, int ask, int w, Tongue tongue) {
            Arrays.fill(held, UNHEARD);
            for (int c = 0; c < size; c++) {
                if (asks[c] == ask && words[c] == w && settlesWord(place, c, tongue)) {
                    return c;
                }
            }
            return NONE;
        }

        /** Whether a PLACE KNOWS a CALL's WORD by that CALL and those of the same first one that were held ahead of it. */
        boolean settlesWord(int place, int c, Tongue tongue) {
            if (isFalse(c)) {
                return false;
            }
            if (froms[c] == place) {
                return true;
            }
            int first = firsts[c];
            held[first] &= heardBy(place, c, tongue);
            return isOneWord(held[first]);
        }

        static boolean isOneWord(int meant) {
            return meant != UNHEARD && Integer.bitCount(meant) == 1;
        }
    }

    /** CHILDREN: the pairs that they learned, and what they CONFUSE. */
    private static final class Nursery {
        // The WORDS that CHILD c learned together with WORD w stand at c * 16 + w, both ways round.
        final int[] learned;
        int size;

        Nursery() {
            learned = new int[MAX_CHILDREN * MAX_WORDS];
        }

        boolean isChild(int c) {
            return c >= 0 && c < size;
        }

        boolean teach(int c, int v, int w) {
            int row = c * MAX_WORDS;
            if (isIn(learned[row + v], w)) {
                return false;
            }
            learned[row + v] |= 1 << w;
            learned[row + w] |= 1 << v;
            return true;
        }

        int learnedPairs(int c) {
            int ends = 0;
            for (int w = 0; w < MAX_WORDS; w++) {
                ends += Integer.bitCount(learned[c * MAX_WORDS + w]);
            }
            return ends / 2;
        }

        int confusedWith(int c, int w, Tongue tongue) {
            return tongue.near[w] & ~learned[c * MAX_WORDS + w];
        }

        int confusedPairs(int c, int among, Tongue tongue) {
            int ends = 0;
            for (int w = 0; w < tongue.words; w++) {
                if (isIn(among, w)) {
                    ends += Integer.bitCount(confusedWith(c, w, tongue) & among);
                }
            }
            return ends / 2;
        }

        int groupWith(int c, int w, Tongue tongue) {
            int group = 1 << w;
            for (int round = 0; round < MAX_WORDS; round++) {
                int wider = group;
                for (int v = 0; v < tongue.words; v++) {
                    if (isIn(group, v)) {
                        wider |= confusedWith(c, v, tongue);
                    }
                }
                if (wider == group) {
                    break;
                }
                group = wider;
            }
            return group;
        }

        int groups(int c, Tongue tongue) {
            int found = 0;
            for (int w = 0; w < tongue.words; w++) {
                if (Integer.numberOfTrailingZeros(groupWith(c, w, tongue)) == w) {
                    found++;
                }
            }
            return found;
        }

        int greatestGroup(int c, Tongue tongue) {
            int most = 0;
            for (int w = 0; w < tongue.words; w++) {
                most = Math.max(most, Integer.bitCount(groupWith(c, w, tongue)));
            }
            return most;
        }
    }
}
