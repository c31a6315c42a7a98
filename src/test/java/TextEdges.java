/** Boundary cases of THE TAPE and of the text on it: the first of the Terms, and promises 1 to 5. */
final class TextEdges {
    private static final int BAD = -1, STATE = -2, FULL = -3, NONE = -4;
    /** 16 WORDS, 0 aa to 15 dd. */
    private static final String SIXTEEN = sixteenWords();
    private static final String SIX_ASKS = "ask 0;ask 15;ask 1,2;ask 2,1;ask 0;ask 7;";

    private TextEdges() {
    }

    static void run() {
        newObject();
        tape();
        feed();
        end();
        tokens();
        signs();
        lines();
        bounds();
        firstMet();
        faultOne();
        faultTwo();
        faultThreeAndFour();
        faultFive();
        faultSix();
        newText();
        tongue();
        fault();
    }

    private static String sixteenWords() {
        StringBuilder text = new StringBuilder("mute a;mute b;mute c;mute d;");
        for (int i = 0; i < 16; i++) {
            text.append("word ").append((char) ('a' + i / 4)).append((char) ('a' + i % 4)).append(';');
        }
        return text.toString();
    }

    private static String blanks(int n) {
        return " ".repeat(n);
    }

    /** A new object finds this FAULT at this place, and nothing is told. */
    private static void faulty(String text, int fault, int place) {
        WhistledWords x = new WhistledWords();
        Doc.is("tongue of '" + text + "'", Due.tell(x, text), -10 - place);
        Doc.is("fault of '" + text + "'", x.fault(), fault);
        Doc.is("what is told by '" + text + "'", x.count(0) + x.count(1) + x.count(2), 0);
    }

    private static void taken(String text, int words, int asks, int letters) {
        WhistledWords x = new WhistledWords();
        Doc.is("tongue of '" + text + "'", Due.tell(x, text), words);
        Doc.is("fault of '" + text + "'", x.fault(), 0);
        Doc.is("WORDS of '" + text + "'", x.count(0), words);
        Doc.is("ASKS of '" + text + "'", x.count(1), asks);
        Doc.is("LETTERS of '" + text + "'", x.count(2), letters);
    }

    private static void newObject() {
        Doc.says(1, "Nothing; SHEETS of nothing.");
        WhistledWords x = new WhistledWords();
        for (int what = 0; what < 9; what++) {
            Doc.is("count " + what, x.count(what), 0);
        }
        Doc.is("count 9", x.count(9), NONE);
        Doc.is("fault", x.fault(), 0);
        Doc.is("wind", x.wind(0, 0), 9);
        Doc.is("wind's fault", x.wind(0, 1), 1);
        for (int k = 0; k < 4; k++) {
            Doc.is("lay on SHEET " + k, x.lay(k, 0, 0), -11);
        }
        for (int what = 0; what < 2; what++) {
            Doc.is("word", x.word(0, what), BAD);
            Doc.is("ask", x.ask(0, what), BAD);
            Doc.is("hears", x.hears(0, 0, what), BAD);
            Doc.is("callOf", x.callOf(0, what), BAD);
            Doc.is("childOf", x.childOf(0, what), BAD);
            Doc.is("cut of all", x.cut(NONE, 0, what), 0);
        }
        Doc.is("blurred", x.blurred(0, 0, 0), BAD);
        Doc.is("apart", x.apart(0, 0, 0), BAD);
        Doc.is("until", x.until(0, 0), BAD);
        Doc.is("cut", x.cut(0, 0, 0), BAD);
        Doc.is("pairs of all", x.cut(NONE, 5, 2), 0);
        Doc.is("means", x.means(0, 0, 0, 0, 0, 0), BAD);
        Doc.is("both", x.both(0, 0, 0, 0), BAD);
        Doc.is("sure", x.sure(0, 0), BAD);
        Doc.is("blur", x.blur(0, 0, 0), BAD);
        Doc.is("way", x.way(0, 1, 0, 0), BAD);
        Doc.is("call", x.call(0, 0, 0, 0, 0, NONE), BAD);
        Doc.is("lie", x.lie(0, true), BAD);
        Doc.is("has", x.has(0, 0, 0, 0), BAD);
        Doc.is("knows", x.knows(0, 0, 0, 0), BAD);
        Doc.is("since", x.since(0, 0, 0), BAD);
        Doc.is("spread", x.spread(0, 0, 0, 0, 0), BAD);
        Doc.is("learn", x.learn(0, 0, 1), BAD);
        Doc.is("lessons", x.lessons(0, 0), BAD);
        WhistledWords y = new WhistledWords();
        Doc.is("end", y.end(0), 0);
        Doc.is("tongue", y.tongue(), 0);
        Doc.is("place", y.place(0, 0, 0), 0);
        Doc.is("ridge", y.ridge(0, 0), 1);
        Doc.is("child", y.child(), 0);
    }

    private static void tape() {
        Doc.says(Doc.TERMS, "THE TAPE has 400 bytes, places from 0.");
        faulty("?", 1, 0);
        faulty("?" + blanks(399), 1, 0);
        faulty(blanks(399) + "?", 1, 399);
        faulty(blanks(394) + "mute m", 2, 400);
        faulty("mute m" + blanks(394), 2, 400);
        taken(blanks(393) + "mute m;", 0, 0, 1);
        taken(blanks(400), 0, 0, 0);
    }

    private static void feed() {
        Doc.says(2, "Eight bytes come behind THE TAPE, the highest first: how many it has.");
        WhistledWords x = new WhistledWords();
        Doc.is("mute m; ", x.feed(0x6d757465206d3b20L), 8);
        Doc.is("its tongue", x.tongue(), 0);
        Doc.is("its letters", x.count(2), 1);
        Doc.is("none is left", x.feed(0x20202020202020FFL), 8);
        Doc.is("behind it", x.feed(-1L), 16);
        Doc.is("the lowest byte is the 8th", x.tongue(), -17);
        Doc.is("the highest byte", x.feed(0xFF20202020202020L), 8);
        Doc.is("is the first", x.tongue(), -10);
        Doc.is("feed, cut, feed", x.feed(0x6d757465206d3b20L), 8);
        Doc.is("feed, cut, feed", x.end(5), 8);
        Doc.is("it comes behind what was kept", x.feed(0x613b202020202020L), 13);
        Doc.is("mute a;", x.tongue(), 0);
        Doc.is("mute a;", x.count(2), 1);
        Doc.says(2, "FULL: more than 400.");
        WhistledWords y = new WhistledWords();
        for (int i = 1; i <= 50; i++) {
            Doc.is("feed " + i, y.feed(0x2020202020202020L), 8 * i);
        }
        Doc.is("the 51st", y.feed(-1L), FULL);
        Doc.is("the 51st again", y.feed(0L), FULL);
        Doc.is("it has", y.count(8), 400);
        Doc.is("393 are kept", y.end(393), 400);
        Doc.is("401", y.feed(-1L), FULL);
        Doc.is("it has", y.count(8), 393);
        Doc.is("392 are kept", y.end(392), 393);
        Doc.is("400", y.feed(0x20202020202020FFL), 400);
        Doc.is("its last byte", y.tongue(), -10 - 399);
        Doc.is("room anew", y.feed(0L), 8);
    }

    private static void end() {
        Doc.says(3, "THE TAPE keeps its first n bytes: how many it had. BAD.");
        WhistledWords x = new WhistledWords();
        Doc.is("0 of 0", x.end(0), 0);
        Doc.is("1 of 0", x.end(1), BAD);
        Due.put(x, "mute m;?");
        Doc.is("9 of 8", x.end(9), BAD);
        Doc.is("400 of 8", x.end(400), BAD);
        Doc.is("401 of 8", x.end(401), BAD);
        for (int n : EdgesTest.OUTSIDE) {
            Doc.is(n + " of 8", x.end(n), BAD);
        }
        Doc.is("8 of 8", x.end(8), 8);
        Doc.is("7 of 8", x.end(7), 8);
        Doc.is("7 of 7", x.end(7), 7);
        Doc.is("8 of 7", x.end(8), BAD);
        Doc.is("count", x.count(8), 7);
        Doc.is("the first ones are kept", x.tongue(), 0);
        Doc.is("the first ones are kept", x.count(2), 1);
        Doc.is("0 of 0 again", x.end(0), 0);
        cutInside(x, "high a 15;", 8, 2);
        cutInside(x, "high a 123", 9, 2);
        cutInside(x, "mute mm;", 6, 2);
        cutInside(x, "mute m  ;", 7, 2);
        cutInside(x, "highh", 4, 2);
        Due.put(x, "?");
        Doc.is("0 of 1", x.end(0), 1);
        Doc.is("nothing is left to be told", x.tongue(), 0);
        Doc.is("nothing is left to be told", x.count(2), 0);
    }

    /** The bytes behind the first n are gone, whatever they were. */
    private static void cutInside(WhistledWords x, String text, int n, int fault) {
        Due.put(x, text);
        Doc.is("'" + text + "' to " + n, x.end(n), text.length());
        Doc.is("the end of '" + text + "' is at " + n, x.tongue(), -10 - n);
        Doc.is("the end of '" + text + "' is at " + n, x.fault(), fault);
    }

    private static void tokens() {
        Doc.says(Doc.TERMS, "TOKENS, each as long as may be, blanks (32) between: NAMES (a .. z), NUMBERS (1 or 2 figures), one ; , .");
        faulty("highh a 3;", 2, 0);
        faulty("hig h 3;", 2, 0);
        faulty("mutem;", 2, 0);
        faulty("mute ma;", 2, 5);
        faulty("high a 1 5;", 2, 9);
        faulty("high a 1a;", 2, 8);
        faulty("high1 a;", 2, 4);
        faulty(";;", 2, 0);
        faulty("mute m;;", 2, 7);
        faulty("mute a;word a;ask 0,,0;", 2, 20);
        faulty("high a 123;", 1, 7);
        faulty("high a 015;", 1, 7);
        faulty("high a 000;", 1, 7);
        faulty("high a 4294967297;", 1, 7);
        faulty("high a 18446744073709551617;", 1, 7);
        taken("high a0;", 0, 0, 1);
        taken("high a15;mute b;word ab;word b;ask 0,1;ask 01,00;", 2, 2, 2);
        taken("  high  a  15  ;  word  a  ;  ask  0  ;  ", 1, 1, 1);
        taken("high a 00;high b 09;high c 9;", 0, 0, 3);
        WhistledWords x = Due.speaking("high a15;high b 08;high c7;word abc;");
        Doc.is("15, not 1", x.word(0, 10), 15);
        Doc.is("08", x.word(0, 11), 8);
        Doc.is("7", x.word(0, 12), 7);
    }

    /** Every byte, where a TOKEN may begin: behind a whole line, at place 7. */
    private static void signs() {
        for (int b = 0; b < 256; b++) {
            String text = "mute m;" + (char) b;
            if (b == ' ') {
                taken(text, 0, 0, 1);
            } else {
                boolean begins = b >= 'a' && b <= 'z' || b >= '0' && b <= '9' || b == ';' || b == ',';
                faulty(text, begins ? 2 : 1, 7);
            }
        }
        for (char letter = 'a'; letter <= 'z'; letter++) {
            taken("mute " + letter + ";word " + letter + ";", 1, 0, 1);
        }
    }

    /** Each line cut behind each of its TOKENS, and with each TOKEN in the place of each other one. */
    private static void lines() {
        Doc.says(Doc.TERMS, "text: { line } line: high LETTER NUMBER ; | stop LETTER NUMBER ; | glide LETTER ; | mute LETTER ; "
                + "| word NAME ; | ask NUMBER { , NUMBER } ;");
        taken("", 0, 0, 0);
        taken("high a 1;stop b 1;glide c;mute d;word abcd;ask 0;", 1, 1, 4);
        taken("mute d;word d;ask 0;word dd;ask 1;glide c;word c;ask 2,0;", 3, 3, 2);
        String ahead = "mute m;word m;word mm;";
        String[][] lines = {{"high", "a", "1", ";"}, {"stop", "a", "1", ";"}, {"glide", "a", ";"}, {"mute", "a", ";"},
            {"word", "mmm", ";"}, {"ask", "1", ";"}, {"ask", "1", ",", "0", ";"}};
        String[] others = {"a", "zz", "mm", "1", ";", ",", "high", "word", "ask"};
        for (String[] line : lines) {
            String before = ahead;
            for (int i = 0; i < line.length; i++) {
                if (i > 0) {
                    faulty(before, 2, before.length());
                    faulty(before + " ", 2, before.length() + 1);
                }
                for (String other : others) {
                    if (!mayStand(line, i, other)) {
                        faulty(before + " " + other, 2, before.length() + 1);
                    }
                }
                before = before + " " + line[i];
            }
            taken(before, line[0].equals("word") ? 3 : 2, line[0].equals("ask") ? 1 : 0, line[0].matches("word|ask") ? 1 : 2);
        }
    }

    private static boolean mayStand(String[] line, int i, String other) {
        if (i == 0) {
            return other.matches("high|word|ask");
        }
        boolean letterLine = line[0].matches("high|stop|glide|mute");
        switch (line[i]) {
            case ";":
            case ",":
                return other.equals(";") || line[0].equals("ask") && other.equals(",");
            case "0":
            case "1":
                return other.equals("1");
            default:
                return letterLine ? other.equals("a") : other.matches("[a-z]+");
        }
    }

    private static void bounds() {
        Doc.says(Doc.TERMS, "LETTER: a NAME of one letter.");
        taken("mute a;mute z;", 0, 0, 2);
        for (String key : new String[] {"high", "stop", "glide", "mute"}) {
            faulty(key + " ab", 2, key.length() + 1);
            faulty(key + " aa 1;", 2, key.length() + 1);
        }
        Doc.says(Doc.TERMS, "high: its HEIGHT (0 to 15); stop: its kind (0 to 3).");
        for (int n = 0; n < 100; n++) {
            if (n <= 15) {
                taken("high a " + n + ";", 0, 0, 1);
            } else {
                faulty("high a " + n + ";", 3, 7);
            }
            if (n <= 3) {
                taken("stop a " + n + ";", 0, 0, 1);
            } else {
                faulty("stop a " + n + ";", 3, 7);
            }
        }
        Doc.says(Doc.TERMS, "word: 1 to 8 letters, all told ahead of it.");
        for (int n = 1; n <= 12; n++) {
            String text = "mute m;word " + "m".repeat(n) + ";";
            if (n <= 8) {
                taken(text, 1, 0, 1);
            } else {
                faulty(text, 5, 12);
            }
        }
        faulty("word m;mute m;", 5, 5);
        faulty("mute m;word mo;mute o;", 5, 12);
        Doc.says(Doc.TERMS, "ask: the WORDS that fit as answers (there already, each once).");
        taken(SIXTEEN + "ask 15;", 16, 1, 4);
        taken(SIXTEEN + "ask 15,14,13,12,11,10,9,8,7,6,5,4,3,2,1,0;", 16, 1, 4);
        faulty(SIXTEEN + "ask 16;", 3, SIXTEEN.length() + 4);
        faulty("mute m;ask 0;word m;", 3, 11);
        faulty("mute m;word m;ask 1;word mm;", 3, 18);
        faulty("mute m;word m;word mm;ask 0,1,0;", 3, 30);
        faulty("mute m;word m;ask 0,00;", 3, 20);
        taken("mute m;word m;ask 0;ask 0;", 1, 2, 1);
    }

    private static void firstMet() {
        Doc.says(Doc.TERMS, "FAULTS, the first met as it is read (a TOKEN is read when the one before has been taken):");
        faulty("low ?", 2, 0);
        faulty("high ab?", 2, 5);
        faulty("high a 16?", 3, 7);
        faulty("high a 16", 3, 7);
        faulty("high a 3?", 1, 8);
        faulty("high a?16;", 1, 6);
        faulty("mute m;high m 99;", 4, 12);
        faulty("mute m;high m ?", 4, 12);
        faulty("mute m;mute m", 4, 12);
        faulty("mute m;word n?", 5, 12);
        faulty("mute m;word n", 5, 12);
        faulty("mute m;word m;word m?", 4, 19);
        faulty("mute m;word m;ask 1?", 3, 18);
        faulty("mute m;word m;ask 0,0?", 3, 20);
        faulty("mute m;word m;ask 0?", 1, 19);
        faulty("high a 16;high a 3;?", 3, 7);
        faulty("? high a 16;", 1, 0);
    }

    private static void faultOne() {
        Doc.says(Doc.TERMS, "1 no TOKEN, a NUMBER that is too long (its first byte).");
        faulty("?", 1, 0);
        faulty("   ?", 1, 3);
        faulty("high?", 1, 4);
        faulty("high a?", 1, 6);
        faulty("high a 1?", 1, 8);
        faulty("mute m?", 1, 6);
        faulty("mute m;word ?", 1, 12);
        faulty("mute m;word m?", 1, 13);
        faulty("mute m;word m;ask ?", 1, 18);
        faulty("mute m;word m;ask 0,?", 1, 20);
        faulty("123", 1, 0);
        faulty("mute 123;", 1, 5);
        faulty("high a 100;", 1, 7);
        faulty("mute m 100;", 1, 7);
        faulty("mute m;word m;ask 000;", 1, 18);
        faulty("mute m;word m;ask 0,000;", 1, 20);
        faulty("mute m;word 999;", 1, 12);
    }

    private static void faultTwo() {
        Doc.says(Doc.TERMS, "2 a TOKEN that can not stand there (a NAME that begins no line, one of several letters for a LETTER, too; "
                + "or the end: the length).");
        for (String name : new String[] {"a", "hig", "highs", "sto", "stops", "glid", "glides", "mut", "mutes", "wor", "words",
            "as", "asks", "text", "line", "gihh", "aigh", "atop", "alide", "aute", "aord", "bsk", "higa", "stoa", "glida",
            "muta", "wora", "asa"}) {
            faulty(name, 2, 0);
            faulty("mute m; " + name + " m;", 2, 8);
        }
        faulty("high ab 3;", 2, 5);
        faulty("glide ab;", 2, 6);
        for (String key : new String[] {"high", "stop", "glide", "mute", "word", "ask"}) {
            faulty(key, 2, key.length());
            faulty(key + "   ", 2, key.length() + 3);
        }
        faulty("mute m;word m;ask 0,", 2, 20);
        faulty("mute m;word m;ask 0", 2, 19);
    }

    private static void faultThreeAndFour() {
        Doc.says(Doc.TERMS, "3 a NUMBER out of its bounds, of no WORD, a WORD that is twice in an ask.");
        faulty("high a 16;", 3, 7);
        faulty("stop a 4;", 3, 7);
        faulty("ask 0;", 3, 4);
        faulty("mute m;word m;ask 1;", 3, 18);
        faulty("mute m;word m;ask 0,32;", 3, 20);
        faulty("mute m;word m;ask 99;", 3, 18);
        faulty("mute m;word m;ask 0, 0;", 3, 21);
        String all = "ask 0,1,2,3,4,5,6,7,8,9,10,11,12,13,14,15,";
        faulty(SIXTEEN + all + "0;", 3, SIXTEEN.length() + all.length());
        faulty(SIXTEEN + all + "16;", 3, SIXTEEN.length() + all.length());
        Doc.says(Doc.TERMS, "4 a LETTER, a WORD that is told already (it).");
        String[] again = {"high m 1;", "stop m 1;", "glide m;", "mute m;"};
        for (String one : again) {
            for (String two : again) {
                faulty(one + two, 4, one.length() + two.indexOf('m', two.startsWith("mute") ? 1 : 0));
            }
        }
        faulty("mute m;word m;word m;", 4, 19);
        faulty("mute m;word mmmmmmmm;word mmmmmmmm;", 4, 26);
        faulty("mute m;word m;word mm;word mmm;word m;", 4, 36);
        taken("mute m;mute n;word mn;word nm;word m;word mmmmmmmm;word mmmmmmmn;", 5, 0, 2);
        taken("mute a;word a;word aa;word aaa;", 3, 0, 1);
    }

    private static void faultFive() {
        Doc.says(Doc.TERMS, "5 a WORD that is too long, or has a letter that is not told (the WORD).");
        faulty("mute m;word mmmmmmmmm;", 5, 12);
        faulty("mute m;word   mmmmmmmmmmmmmmmmmmmmmmmm", 5, 14);
        faulty("mute m;word om;", 5, 12);
        faulty("mute m;word mo;", 5, 12);
        faulty("mute m;word mmmmmmmo;", 5, 12);
        faulty("mute m;word mmmmmmmmo;", 5, 12);
        faulty("mute m;word word;", 5, 12);
        faulty("word a;", 5, 5);
    }

    private static void faultSix() {
        Doc.says(Doc.TERMS, "6 the 17th WORD, the 7th ask (word, ask).");
        taken(SIXTEEN, 16, 0, 4);
        faulty(SIXTEEN + "word a;", 6, SIXTEEN.length());
        faulty(SIXTEEN + "  word a;", 6, SIXTEEN.length() + 2);
        faulty(SIXTEEN + "word", 6, SIXTEEN.length());
        faulty(SIXTEEN + "word zz;", 6, SIXTEEN.length());
        faulty(SIXTEEN + "word aa;", 6, SIXTEEN.length());
        taken(SIXTEEN + SIX_ASKS, 16, 6, 4);
        int full = SIXTEEN.length() + SIX_ASKS.length();
        faulty(SIXTEEN + SIX_ASKS + "ask 0;", 6, full);
        faulty(SIXTEEN + SIX_ASKS + " ask 0;", 6, full + 1);
        faulty(SIXTEEN + SIX_ASKS + "ask", 6, full);
        faulty(SIXTEEN + SIX_ASKS + "ask 99;", 6, full);
        faulty(SIXTEEN + SIX_ASKS + "word a;", 6, full);
    }

    private static void newText() {
        Doc.says(Doc.TERMS, "WORDS (16) and ASKS (6) are numbered as they are told; a new text that is taken tells all of it "
                + "(LETTERS, WORDS, ASKS), in place of the old one.");
        WhistledWords x = Due.speaking(SIXTEEN + SIX_ASKS);
        Doc.is("the last WORD", x.word(15, 3), 1);
        Doc.is("the last ask", x.ask(5, 1), 128);
        Doc.is("no 17th", x.word(16, 0), BAD);
        Doc.is("no 7th", x.ask(6, 0), BAD);
        Doc.is("a LETTER of the old text", Due.tell(x, "mute z;word az;"), -10 - 12);
        Doc.is("it is not told", x.fault(), 5);
        Doc.is("a WORD of the old text", Due.tell(x, "mute z;ask 0;"), -10 - 11);
        Doc.is("it is none", x.fault(), 3);
        Doc.is("the old one stays", x.count(0), 16);
        Doc.is("the old LETTERS, the old WORD, anew", Due.tell(x, "glide a;word aa;ask 0;"), 1);
        Doc.is("the LETTER is another", x.word(0, 10), 20);
        Doc.is("WORDS", x.count(0), 1);
        Doc.is("ASKS", x.count(1), 1);
        Doc.is("LETTERS", x.count(2), 1);
        Doc.is("the old WORD 1", x.word(1, 0), BAD);
        Doc.is("the old ask 1", x.ask(1, 0), BAD);
        Doc.is("how many are alike", x.cut(NONE, 5, 2), 0);
        Doc.is("16 again", Due.tell(x, SIXTEEN + SIX_ASKS), 16);
        Doc.is("an empty text", x.tongue(), 0);
        Doc.is("WORDS, ASKS, LETTERS", x.count(0) + x.count(1) + x.count(2), 0);
        Doc.is("no WORD", x.word(0, 0), BAD);
        Doc.is("no ask", x.ask(0, 0), BAD);
    }

    private static void tongue() {
        Doc.says(4, "THE TAPE (empty then) tells the tongue: how many WORDS; -10 less the place of its FAULT: that which was told stays.");
        WhistledWords x = new WhistledWords();
        Doc.is("of an empty TAPE", x.tongue(), 0);
        Doc.is("16", Due.tell(x, SIXTEEN), 16);
        Doc.is("empty then", x.count(8), 0);
        Doc.is("at 0", Due.tell(x, ";"), -10);
        Doc.is("empty then, with a FAULT too", x.count(8), 0);
        Doc.is("at 399", Due.tell(x, blanks(399) + ";"), -409);
        Doc.is("at 400", Due.tell(x, blanks(397) + "ask"), -410);
        Doc.is("a FAULT behind much", Due.tell(x, "high e 3;word e;ask 0;?"), -10 - 22);
        Doc.is("the WORDS stay", x.count(0), 16);
        Doc.is("the asks stay", x.count(1), 0);
        Doc.is("the LETTERS stay", x.count(2), 4);
        Doc.is("their MARKS stay", x.word(0, 1), 0);
        Doc.is("their letters stay", x.word(0, 0), 2);
        Doc.says(4, "STATE (THE TAPE stays): there are CALLS, CHILDREN.");
        WhistledWords y = Due.speaking("mute m;word m;ask 0;");
        y.place(0, 0, 0);
        y.ridge(0, 0);
        y.sheet(0, 0, 1);
        Doc.is("PLACES, RIDGES, SHEETS do not matter", Due.tell(y, "mute m;word m;ask 0;"), 1);
        y.call(0, 0, 0, 0, 0, NONE);
        stays(y, 1);
        y.lie(0, true);
        stays(y, 1);
        WhistledWords z = new WhistledWords();
        z.child();
        stays(z, 0);
        z.end(0);
        Doc.is("of an empty TAPE", z.tongue(), STATE);
    }

    private static void stays(WhistledWords x, int words) {
        Due.put(x, "glide g;");
        Doc.is("tongue", x.tongue(), STATE);
        Doc.is("THE TAPE stays", x.count(8), 8);
        Doc.is("the WORDS stay", x.count(0), words);
        Doc.is("the FAULT stays", x.fault(), 0);
        Doc.is("again", x.tongue(), STATE);
    }

    private static void fault() {
        Doc.says(5, "The FAULT of the latest tongue() that was not STATE; 0.");
        WhistledWords x = new WhistledWords();
        Doc.is("no tongue() yet", x.fault(), 0);
        String[] texts = {"?", "low", "high a 16", "mute m;mute m", "word a", SIXTEEN + "word"};
        for (int i = 0; i < texts.length; i++) {
            Due.tell(x, texts[i]);
            Doc.is("of '" + texts[i] + "'", x.fault(), i + 1);
            Doc.is("again", x.fault(), i + 1);
        }
        Due.put(x, "?");
        Doc.is("THE TAPE alone does not matter", x.fault(), 6);
        x.child();
        Doc.is("STATE", x.tongue(), STATE);
        Doc.is("behind STATE", x.fault(), 6);
        WhistledWords y = new WhistledWords();
        Due.tell(y, "?");
        Doc.is("a FAULT", y.fault(), 1);
        Due.tell(y, "mute m;");
        Doc.is("none any more", y.fault(), 0);
    }
}
