/** Boundary cases of PLACES, RIDGES, SHEETS and WIND: the second of the Terms, and promises 15 to 22. */
final class LandEdges {
    private static final int BAD = -1, FULL = -3, NONE = -4;
    private static final int[] OUTSIDE = EdgesTest.OUTSIDE;

    private LandEdges() {
    }

    static void run() {
        places();
        ridges();
        ridgeBetween();
        sheets();
        sheet();
        lay();
        winds();
        wind();
        distance();
        heightOfRidges();
        blurByWind();
        hearing();
        blur();
        hears();
        ways();
        way();
    }

    private static WhistledWords calm() {
        WhistledWords x = new WhistledWords();
        x.sheet(0, 0, 24);
        return x;
    }

    /** Two PLACES of HEIGHT 50 in a calm. */
    private static WhistledWords pair(int ax, int ay, int bx, int by) {
        WhistledWords x = calm();
        x.place(ax, ay, 50);
        x.place(bx, by, 50);
        return x;
    }

    private static void bothWays(String call, WhistledWords x, int hour, int due) {
        Doc.is(call, x.blur(0, 1, hour), due);
        Doc.is(call + ", the other way", x.blur(1, 0, hour), due);
    }

    private static void places() {
        Doc.says(Doc.TERMS, "PLACES (10) are numbered as they come: x, y (0 to 99 each), a HEIGHT (0 to 99).");
        Doc.says(15, "A PLACE: its number. BAD; FULL.");
        WhistledWords x = new WhistledWords();
        for (int n : OUTSIDE) {
            Doc.is("x " + n, x.place(n, 0, 0), BAD);
            Doc.is("y " + n, x.place(0, n, 0), BAD);
            Doc.is("HEIGHT " + n, x.place(0, 0, n), BAD);
        }
        Doc.is("x 100", x.place(100, 0, 0), BAD);
        Doc.is("y 100", x.place(0, 100, 0), BAD);
        Doc.is("HEIGHT 100", x.place(0, 0, 100), BAD);
        Doc.is("none came", x.count(3), 0);
        Doc.is("the least", x.place(0, 0, 0), 0);
        Doc.is("the greatest", x.place(99, 99, 99), 1);
        Doc.is("the greatest x", x.place(99, 0, 0), 2);
        Doc.is("the greatest y", x.place(0, 99, 0), 3);
        Doc.is("the greatest HEIGHT", x.place(0, 0, 99), 4);
        for (int i = 5; i < 10; i++) {
            Doc.is("where one is already", x.place(0, 0, 0), i);
        }
        Doc.is("the 11th", x.place(0, 0, 0), FULL);
        Doc.is("the 11th, and BAD", x.place(100, 0, 0), BAD);
        Doc.is("the 11th, and BAD", x.place(0, 0, -1), BAD);
        Doc.is("there are", x.count(3), 10);
        Doc.is("the last one", x.blur(9, 0, 0), 2);
    }

    private static void ridges() {
        Doc.says(Doc.TERMS, "RIDGES (6): at an x (0 to 99), with a HEIGHT (0 to 99);");
        Doc.says(16, "A RIDGE: how many there are. BAD; FULL.");
        WhistledWords x = new WhistledWords();
        for (int n : OUTSIDE) {
            Doc.is("x " + n, x.ridge(n, 0), BAD);
            Doc.is("HEIGHT " + n, x.ridge(0, n), BAD);
        }
        Doc.is("x 100", x.ridge(100, 0), BAD);
        Doc.is("HEIGHT 100", x.ridge(0, 100), BAD);
        Doc.is("none came", x.count(4), 0);
        Doc.is("the least", x.ridge(0, 0), 1);
        Doc.is("the greatest", x.ridge(99, 99), 2);
        for (int i = 3; i <= 6; i++) {
            Doc.is("where one is already", x.ridge(99, 99), i);
        }
        Doc.is("the 7th", x.ridge(0, 0), FULL);
        Doc.is("the 7th, and BAD", x.ridge(100, 0), BAD);
        Doc.is("the 7th, and BAD", x.ridge(0, -1), BAD);
        Doc.is("there are", x.count(4), 6);
        x.sheet(0, 0, 24);
        x.place(98, 0, 0);
        x.place(99, 0, 0);
        Doc.is("all six are there", x.blur(0, 1, 0), 10);
    }

    private static void ridgeBetween() {
        Doc.says(Doc.TERMS, "a RIDGE is between two PLACES, if its x is above the less, up to the greater x of both.");
        int[] at = {0, 39, 40, 41, 42, 43, 99};
        int[] due = {0, 0, 0, 2, 2, 0, 0};
        for (int i = 0; i < at.length; i++) {
            WhistledWords x = pair(40, 0, 42, 0);
            x.ridge(at[i], 99);
            bothWays("a RIDGE at " + at[i], x, 0, due[i]);
        }
        WhistledWords y = pair(40, 0, 40, 19);
        y.ridge(40, 99);
        bothWays("both at its x", y, 0, 0);
        WhistledWords z = pair(0, 0, 99, 0);
        z.ridge(0, 99);
        bothWays("a RIDGE at 0", z, 0, 4);
        z.ridge(99, 99);
        bothWays("a RIDGE at 99", z, 0, 6);
    }

    private static void sheets() {
        Doc.says(Doc.TERMS, "SHEETS 0 to 3 are rows of BYTES (lane 0), SHORTS (1), INTS (2) with 0 to 60 CELLS, or nothing (at first).");
        WhistledWords x = new WhistledWords();
        for (int k = 0; k < 4; k++) {
            Doc.is("nothing, SHEET " + k, x.lay(k, 0, 0), -11);
            for (int lane = 0; lane < 3; lane++) {
                Doc.is("60 CELLS", x.sheet(k, lane, 60), 1);
                Doc.is("the last", x.lay(k, 59, 1), 1);
                Doc.is("behind it", x.lay(k, 60, 1), -12);
                Doc.is("no CELLS", x.sheet(k, lane, 0), 1);
                Doc.is("none", x.lay(k, 0, 1), -12);
            }
        }
        Doc.is("SHEET 4", x.sheet(4, 0, 1), BAD);
        Doc.is("lane 3", x.sheet(0, 3, 1), BAD);
        Doc.says(Doc.TERMS, "A FAULT is what the machine finds: 1 NULL (nothing), 2 INDEX, 3 CAST (another lane), 4 SIZE (below 0).");
        WhistledWords y = Due.speaking("mute m;word m;ask 0;");
        Doc.is("NULL", y.lay(0, 0, 0), -11);
        Doc.is("NULL", y.means(0, 0, 0, 0, 0, 1), -11);
        Doc.is("NULL", y.wind(0, 1), 1);
        Doc.is("SIZE", y.sheet(0, 1, -1), -14);
        Doc.is("NULL still", y.lay(0, 0, 0), -11);
        y.sheet(0, 1, 1);
        Doc.is("INDEX", y.lay(0, 1, 0), -12);
        Doc.is("CAST", y.means(0, 0, 0, 0, 0, 1), -13);
        Doc.is("CAST", y.wind(0, 1), 3);
        y.sheet(0, 0, 1);
        Doc.is("INDEX", y.wind(1, 1), 2);
        Doc.is("INDEX", y.means(0, 0, 0, 0, 1, 1), -12);
    }

    private static void sheet() {
        Doc.says(17, "A SHEET is a new row of CELLS 0: 1.");
        WhistledWords x = calm();
        for (int hour = 0; hour < 24; hour++) {
            x.lay(0, hour, 1);
        }
        Doc.is("as long as it was", x.sheet(0, 0, 24), 1);
        for (int hour = 0; hour < 24; hour++) {
            Doc.is("CELL " + hour, x.wind(hour, 0), 0);
        }
        x.lay(0, 0, 1);
        x.lay(0, 1, 1);
        Doc.is("shorter", x.sheet(0, 0, 1), 1);
        Doc.is("it has 1", x.count(9), 1);
        Doc.is("longer", x.sheet(0, 0, 2), 1);
        Doc.is("CELL 0", x.wind(0, 0), 0);
        Doc.is("CELL 1", x.wind(1, 0), 0);
        x.lay(0, 0, 1);
        Doc.is("another SHEET", x.sheet(1, 0, 1), 1);
        Doc.is("this one stays", x.wind(0, 0), 1);
        Doc.is("another lane", x.sheet(0, 2, 1), 1);
        Doc.is("another lane", x.wind(0, 1), 3);
        Doc.says(17, "BAD: also n above 60; -10 - 4.");
        Doc.is("60", x.sheet(0, 0, 60), 1);
        Doc.is("61", x.sheet(0, 0, 61), BAD);
        Doc.is("0", x.sheet(0, 0, 0), 1);
        Doc.is("-1", x.sheet(0, 0, -1), -14);
        Doc.is("BAD ahead of SIZE", x.sheet(4, 0, -1), BAD);
        Doc.is("BAD ahead of SIZE", x.sheet(-1, 0, -1), BAD);
        Doc.is("BAD ahead of SIZE", x.sheet(0, 3, -1), BAD);
        Doc.is("BAD ahead of SIZE", x.sheet(0, -1, -1), BAD);
        for (int n : OUTSIDE) {
            Doc.is("SHEET " + n, x.sheet(n, 0, 1), BAD);
            Doc.is("lane " + n, x.sheet(0, n, 1), BAD);
            Doc.is("n " + n, x.sheet(0, 0, n), n < 0 ? -14 : BAD);
        }
        Doc.is("it has none", x.count(9), 0);
    }

    private static void lay() {
        Doc.says(18, "CELL i of a SHEET becomes v (its lowest bits): 1.");
        WhistledWords x = Due.speaking("high a 0;high b 15;word a;word b;ask 0,1;");
        int[] laid = {15, 0x10f, 0xff0f, 0x1000f, 0x7fff000f, -241, 0xffff000f, 0x8000000f, 0, 0x100, 0x10000, 0x80000000};
        int[][] due = {{2, 2, 2}, {2, 0, 0}, {2, 0, 0}, {2, 2, 0}, {2, 2, 0}, {2, 0, 0}, {2, 2, 0}, {2, 2, 0},
            {1, 1, 1}, {1, 0, 0}, {1, 1, 0}, {1, 1, 0}};
        for (int lane = 0; lane < 3; lane++) {
            x.sheet(1, lane, 2);
            for (int i = 0; i < laid.length; i++) {
                Doc.is(laid[i] + " in lane " + lane, x.lay(1, 1, laid[i]), 1);
                Doc.is("means " + laid[i] + " in lane " + lane, x.means(0, 0, 1, lane, 1, 1), due[i][lane]);
            }
            Doc.is("the other CELL", x.means(0, 0, 1, lane, 0, 1), 1);
        }
        x.sheet(0, 0, 1);
        int[] bytes = {127, 128, 129, 254, 255, 256, 257, -127, -128, -129, -255, -256, Integer.MAX_VALUE, Integer.MIN_VALUE};
        int[] winds = {2, -2, -2, -2, -1, 0, 1, -2, -2, 2, 1, 0, -1, 0};
        for (int i = 0; i < bytes.length; i++) {
            x.lay(0, 0, bytes[i]);
            Doc.is(bytes[i] + " as a BYTE", x.wind(0, 0), winds[i]);
        }
        Doc.says(18, "BAD: k; -10 less the FAULT: NULL, INDEX.");
        Doc.is("SHEET 4", x.lay(4, 0, 0), BAD);
        Doc.is("NULL", x.lay(3, 0, 0), -11);
        Doc.is("NULL ahead of INDEX", x.lay(3, 60, 0), -11);
        Doc.is("BAD ahead of INDEX", x.lay(4, -1, 0), BAD);
        Doc.is("INDEX 1", x.lay(0, 1, 0), -12);
        Doc.is("INDEX 0 is there", x.lay(0, 0, 0), 1);
        for (int n : OUTSIDE) {
            Doc.is("SHEET " + n, x.lay(n, 0, 0), BAD);
            Doc.is("INDEX " + n, x.lay(0, n, 0), -12);
            Doc.is("NULL " + n, x.lay(3, n, 0), -11);
        }
    }

    private static void winds() {
        Doc.says(Doc.TERMS, "WIND of an HOUR (0 to 23): CELL of SHEET 0 taken as of BYTES, held to -2 to 2; "
                + "where the machine refuses, it is UNKNOWN by that FAULT.");
        WhistledWords x = calm();
        int[] laid = {-128, -100, -3, -2, -1, 0, 1, 2, 3, 100, 127};
        int[] due = {-2, -2, -2, -2, -1, 0, 1, 2, 2, 2, 2};
        for (int i = 0; i < laid.length; i++) {
            x.lay(0, 0, laid[i]);
            x.lay(0, 23, -laid[i]);
            Doc.is(laid[i] + " at 0", x.wind(0, 0), due[i]);
            Doc.is(-laid[i] + " at 23", x.wind(23, 0), laid[i] == -128 ? -2 : -due[i]);
        }
        for (int n = 0; n <= 24; n++) {
            x.sheet(0, 0, n);
            if (n > 0) {
                Doc.is("the last of " + n, x.wind(n - 1, 0), 0);
                Doc.is("the last of " + n, x.wind(n - 1, 1), 0);
            }
            Doc.is("behind the last of " + n, x.wind(n, 0), n < 24 ? 9 : -10);
            Doc.is("behind the last of " + n, x.wind(n, 1), n < 24 ? 2 : -10);
        }
        x.sheet(0, 0, 60);
        Doc.is("hour 23 of 60", x.wind(23, 0), 0);
        Doc.is("hour 24 of 60", x.wind(24, 0), -10);
    }

    private static void wind() {
        Doc.says(19, "WIND of an HOUR (UNKNOWN: 9, what 0), the FAULT by which it is UNKNOWN (0: it is not; what 1).");
        WhistledWords x = new WhistledWords();
        Doc.is("NULL", x.wind(23, 0), 9);
        Doc.is("NULL", x.wind(23, 1), 1);
        for (int lane = 1; lane < 3; lane++) {
            x.sheet(0, lane, 24);
            Doc.is("CAST", x.wind(0, 0), 9);
            Doc.is("CAST", x.wind(0, 1), 3);
            x.sheet(0, lane, 0);
            Doc.is("CAST ahead of INDEX", x.wind(0, 1), 3);
        }
        x.sheet(0, 0, 1);
        Doc.is("INDEX", x.wind(1, 0), 9);
        Doc.is("INDEX", x.wind(1, 1), 2);
        x.lay(0, 0, 9);
        Doc.is("9 on the SHEET is not UNKNOWN", x.wind(0, 0), 2);
        Doc.is("it is not", x.wind(0, 1), 0);
        Doc.says(19, "BAD -10.");
        Doc.is("hour 24", x.wind(24, 0), -10);
        Doc.is("hour 24", x.wind(24, 1), -10);
        Doc.is("what 2", x.wind(0, 2), -10);
        Doc.is("what 2, UNKNOWN", x.wind(1, 2), -10);
        for (int n : OUTSIDE) {
            Doc.is("hour " + n, x.wind(n, 0), -10);
            Doc.is("hour " + n, x.wind(n, 1), -10);
            Doc.is("what " + n, x.wind(0, n), -10);
        }
    }

    private static void distance() {
        Doc.says(Doc.TERMS, "BLUR from a PLACE to another one in an HOUR: the differences of x and of y, without sign, summed, divided down by 20;");
        int[] far = {0, 1, 19, 20, 21, 39, 40, 59, 60, 79, 80, 99};
        for (int d : far) {
            bothWays("x " + d, pair(0, 7, d, 7), 0, d / 20);
            bothWays("y " + d, pair(7, 0, 7, d), 0, d / 20);
        }
        bothWays("19 and 0", pair(50, 50, 69, 50), 0, 0);
        bothWays("10 and 9", pair(50, 50, 60, 59), 0, 0);
        bothWays("10 and -9", pair(50, 50, 60, 41), 0, 0);
        bothWays("10 and 10", pair(50, 50, 60, 60), 0, 1);
        bothWays("10 and -10", pair(50, 50, 60, 40), 0, 1);
        bothWays("19 and 19", pair(50, 50, 69, 69), 0, 1);
        bothWays("99 and 99", pair(0, 0, 99, 99), 0, 9);
        bothWays("99 and -99", pair(0, 99, 99, 0), 0, 9);
    }

    private static void heightOfRidges() {
        Doc.says(Doc.TERMS, "2 more for each RIDGE between that is higher than both PLACES, 1 for one that is higher than one of both;");
        int[] heights = {0, 29, 30, 31, 59, 60, 61, 99};
        int[] due = {0, 0, 0, 1, 1, 1, 2, 2};
        for (int i = 0; i < heights.length; i++) {
            WhistledWords x = calm();
            x.place(10, 0, 30);
            x.place(12, 0, 60);
            x.ridge(11, heights[i]);
            bothWays("HEIGHT " + heights[i], x, 0, due[i]);
            x.ridge(11, heights[i]);
            x.ridge(12, 60);
            bothWays("twice HEIGHT " + heights[i] + ", and 60", x, 0, 2 * due[i] + 1);
        }
        WhistledWords y = calm();
        y.place(10, 0, 99);
        y.place(12, 0, 99);
        y.ridge(11, 99);
        bothWays("none is higher than 99", y, 0, 0);
        WhistledWords z = calm();
        z.place(10, 0, 0);
        z.place(12, 0, 0);
        z.ridge(11, 0);
        bothWays("0 is not higher than 0", z, 0, 0);
        z.ridge(11, 1);
        bothWays("1 is", z, 0, 2);
    }

    private static void blurByWind() {
        Doc.says(Doc.TERMS, "less WIND, if the other one has the greater x, more by WIND, if it has the less x "
                + "(UNKNOWN: more by 2, also of the same x; else of the same x WIND does not matter); held to 0 at least.");
        WhistledWords x = calm();
        for (int h = 0; h < 5; h++) {
            x.lay(0, h, h - 2);
        }
        x.place(10, 0, 50);
        x.place(11, 39, 50);
        x.place(10, 40, 50);
        int[] up = {4, 3, 2, 1, 0};
        int[] down = {0, 1, 2, 3, 4};
        for (int h = 0; h < 5; h++) {
            Doc.is("to the greater x, WIND " + (h - 2), x.blur(0, 1, h), up[h]);
            Doc.is("to the less x, WIND " + (h - 2), x.blur(1, 0, h), down[h]);
            Doc.is("of the same x, WIND " + (h - 2), x.blur(0, 2, h), 2);
            Doc.is("of the same x, WIND " + (h - 2), x.blur(2, 0, h), 2);
            Doc.is("held to 0, WIND " + (h - 2), x.blur(2, 1, h), Math.max(0, 2 - h));
            Doc.is("held to 0, WIND " + (h - 2), x.blur(1, 2, h), Math.max(0, h - 2));
            Doc.is("one and the same, WIND " + (h - 2), x.blur(1, 1, h), 0);
        }
        x.ridge(11, 51);
        Doc.is("held behind the RIDGES, not ahead of them", x.blur(2, 1, 4), 0);
        Doc.is("held behind the RIDGES, not ahead of them", x.blur(1, 2, 0), 0);
        Doc.is("and the other way", x.blur(2, 1, 0), 4);
        int[][] unknown = {{1, 24}, {2, 24}, {0, 0}};
        for (int[] s : unknown) {
            x.sheet(0, s[0], s[1]);
            Doc.is("UNKNOWN, to the greater x", x.blur(0, 1, 0), 6);
            Doc.is("UNKNOWN, to the less x", x.blur(1, 0, 0), 6);
            Doc.is("UNKNOWN, of the same x", x.blur(0, 2, 0), 4);
            Doc.is("UNKNOWN, of the same x", x.blur(2, 0, 0), 4);
        }
        WhistledWords y = new WhistledWords();
        y.place(10, 0, 50);
        y.place(10, 0, 50);
        Doc.is("UNKNOWN, at the same place", y.blur(0, 1, 0), 2);
        Doc.says(Doc.TERMS, "(BLUR of one and the same PLACE is 0.)");
        Doc.is("UNKNOWN", y.blur(0, 0, 0), 0);
        Doc.is("UNKNOWN", y.blur(1, 1, 23), 0);
        Doc.is("with a RIDGE", x.blur(1, 1, 0), 0);
    }

    private static void hearing() {
        Doc.says(Doc.TERMS, "HEARS: that is 5 at most.");
        WhistledWords x = pair(0, 0, 50, 50);
        Doc.is("at 5", x.blur(0, 1, 0), 5);
        Doc.is("at 5", x.hears(0, 0, 0), 1);
        Doc.is("at 5", x.hears(1, 0, 2), 1);
        Doc.is("at 5", x.hears(0, 0, 1), 1);
        Doc.is("at 5", x.hears(1, 0, 1), 1);
        WhistledWords y = pair(0, 0, 60, 60);
        Doc.is("at 6", y.blur(0, 1, 0), 6);
        Doc.is("at 6", y.hears(0, 0, 0), 0);
        Doc.is("at 6", y.hears(1, 0, 1), 0);
        y.lay(0, 1, 1);
        Doc.is("at 5 with the WIND", y.hears(0, 1, 0), 1);
        Doc.is("at 7 against the WIND", y.hears(1, 1, 0), 0);
        Doc.is("at 7 against the WIND", y.hears(0, 1, 1), 0);
    }

    private static void blur() {
        Doc.says(20, "BLUR from a PLACE to another one in an HOUR (also above 5). BAD.");
        WhistledWords x = new WhistledWords();
        x.place(0, 0, 0);
        Doc.is("PLACE 1", x.blur(0, 1, 0), BAD);
        x.place(99, 99, 0);
        for (int i = 0; i < 6; i++) {
            x.ridge(99, 99);
        }
        Doc.is("the greatest", x.blur(0, 1, 0), 23);
        Doc.is("the greatest", x.blur(1, 0, 23), 23);
        Doc.is("PLACE 2", x.blur(0, 2, 0), BAD);
        Doc.is("PLACE 2", x.blur(2, 0, 0), BAD);
        Doc.is("PLACE 2 twice", x.blur(2, 2, 0), BAD);
        Doc.is("hour 24", x.blur(0, 1, 24), BAD);
        Doc.is("hour 24, one and the same", x.blur(1, 1, 24), BAD);
        for (int n : OUTSIDE) {
            Doc.is("PLACE " + n, x.blur(n, 0, 0), BAD);
            Doc.is("PLACE " + n, x.blur(0, n, 0), BAD);
            Doc.is("PLACE " + n + " twice", x.blur(n, n, 0), BAD);
            Doc.is("hour " + n, x.blur(0, 1, n), BAD);
            Doc.is("hour " + n + ", one and the same", x.blur(0, 0, n), BAD);
        }
    }

    private static void hears() {
        Doc.says(21, "How many other PLACES HEAR one in an HOUR (what 0); how many others it HEARS (1); those who HEAR it (bits, 2). BAD.");
        WhistledWords x = calm();
        x.place(99, 99, 0);
        for (int what = 0; what < 3; what++) {
            Doc.is("alone", x.hears(0, 0, what), 0);
        }
        for (int i = 1; i < 10; i++) {
            x.place(i, 0, 0);
        }
        Doc.is("too far", x.hears(0, 0, 0), 0);
        Doc.is("all but one", x.hears(9, 0, 0), 8);
        Doc.is("all but one", x.hears(9, 0, 1), 8);
        Doc.is("all but one", x.hears(9, 0, 2), 510);
        Doc.is("all but one", x.hears(1, 23, 2), 1020);
        x.lay(0, 1, 2);
        x.lay(0, 2, -2);
        x.ridge(5, 1);
        x.ridge(5, 1);
        Doc.is("with the WIND", x.hears(1, 1, 0), 8);
        Doc.is("with the WIND", x.hears(1, 1, 1), 3);
        Doc.is("against it", x.hears(1, 2, 0), 3);
        Doc.is("against it", x.hears(1, 2, 1), 8);
        Doc.is("against it", x.hears(1, 2, 2), 28);
        Doc.is("what 3", x.hears(1, 0, 3), BAD);
        Doc.is("PLACE 10", x.hears(10, 0, 0), BAD);
        Doc.is("hour 24", x.hears(1, 24, 0), BAD);
        for (int n : OUTSIDE) {
            Doc.is("PLACE " + n, x.hears(n, 0, 0), BAD);
            Doc.is("hour " + n, x.hears(1, n, 2), BAD);
            Doc.is("what " + n, x.hears(1, 0, n), BAD);
        }
    }

    private static void wayIs(String why, WhistledWords x, int b, int blur, int... due) {
        int a = due[0];
        Doc.is(why + ", its BLUR", x.way(a, b, 0, 0), blur);
        Doc.is(why + ", its PLACES", x.way(a, b, 0, 1), due.length);
        for (int i = 0; i < due.length; i++) {
            Doc.is(why + ", PLACE " + i, x.way(a, b, 0, 10 + i), due[i]);
        }
        Doc.is(why + ", behind its end", x.way(a, b, 0, 10 + due.length), NONE);
    }

    private static void ways() {
        Doc.says(Doc.TERMS, "WAY of a call in an HOUR: PLACES from one to another one, each HEARS the one ahead; that with the least greatest BLUR, "
                + "of several with the fewest PLACES, then the least numbers one by one.");
        WhistledWords x = pair(0, 0, 0, 85);
        wayIs("none but the ends", x, 1, 4, 0, 1);
        x.place(0, 25, 50);
        wayIs("a less greatest BLUR, by more PLACES", x, 1, 3, 0, 2, 1);
        x.place(10, 20, 50);
        wayIs("of the same length and BLUR the least number", x, 1, 3, 0, 2, 1);
        x.place(10, 57, 50);
        wayIs("through two", x, 1, 1, 0, 3, 4, 1);
        x.place(0, 60, 50);
        wayIs("2 5 is ahead of 3 4", x, 1, 1, 0, 2, 5, 1);
        wayIs("4 3 is ahead of 5 2", x, 0, 1, 1, 4, 3, 0);
        x.place(0, 42, 50);
        wayIs("PLACE 6 makes none less", x, 1, 1, 0, 2, 5, 1);
        x.place(39, 0, 50);
        x.place(18, 0, 50);
        x.place(0, 17, 50);
        wayIs("nor do others", x, 1, 1, 0, 2, 5, 1);
        wayIs("right away", x, 7, 1, 0, 7);
        wayIs("no more than needed", x, 9, 0, 0, 9);
        WhistledWords y = pair(0, 0, 99, 0);
        y.place(50, 0, 50);
        y.lay(0, 0, -2);
        wayIs("4 and 4", y, 1, 4, 0, 2, 1);
        wayIs("each HEARS the one ahead, not the one behind", y, 0, 0, 1, 2, 0);
        y.ridge(51, 99);
        wayIs("at 5", pair(0, 0, 50, 50), 1, 5, 0, 1);
        Doc.is("4 and 6", y.way(0, 1, 0, 0), NONE);
        wayIs("2 and 0", y, 0, 2, 1, 2, 0);
    }

    private static void way() {
        Doc.says(22, "WAY: what 0 its greatest BLUR, 1 how many PLACES (both ends too), 10 and i: PLACE i.");
        WhistledWords x = calm();
        for (int i = 0; i < 10; i++) {
            x.place(0, i * 11, 50);
        }
        wayIs("all ten", x, 9, 0, 0, 1, 2, 3, 4, 5, 6, 7, 8, 9);
        wayIs("the ends alone", x, 4, 0, 5, 4);
        Doc.says(22, "BAD: also one and the same; NONE: there is no WAY (0, 1), it is not so long.");
        Doc.is("one and the same", x.way(3, 3, 0, 0), BAD);
        Doc.is("one and the same", x.way(3, 3, 0, 10), BAD);
        Doc.is("PLACE 10", x.way(10, 3, 0, 0), BAD);
        Doc.is("PLACE 10", x.way(3, 10, 0, 0), BAD);
        Doc.is("hour 24", x.way(3, 4, 24, 0), BAD);
        for (int what = 2; what < 10; what++) {
            Doc.is("what " + what, x.way(3, 4, 0, what), BAD);
        }
        Doc.is("PLACE 1", x.way(3, 4, 0, 11), 4);
        Doc.is("PLACE 2, it is not so long", x.way(3, 4, 0, 12), NONE);
        // 10 and 32: what would be PLACE 0 again if it were taken by 32.
        Doc.is("PLACE 32", x.way(3, 4, 0, 42), NONE);
        for (int n : OUTSIDE) {
            Doc.is("from " + n, x.way(n, 4, 0, 0), BAD);
            Doc.is("to " + n, x.way(3, n, 0, 0), BAD);
            Doc.is("hour " + n, x.way(3, 4, n, 0), BAD);
            Doc.is("what " + n, x.way(3, 4, 0, n), n < 0 ? BAD : NONE);
        }
        WhistledWords y = pair(0, 0, 60, 60);
        for (int what : new int[] {0, 1, 10, 11, 12, Integer.MAX_VALUE}) {
            Doc.is("no WAY, what " + what, y.way(0, 1, 0, what), NONE);
        }
        Doc.is("no WAY, but what 2", y.way(0, 1, 0, 2), BAD);
        Doc.is("no WAY, but what -1", y.way(0, 1, 0, -1), BAD);
        y.lay(0, 0, 1);
        Doc.is("a WAY with the WIND", y.way(0, 1, 0, 0), 5);
        Doc.is("none against it", y.way(1, 0, 0, 0), NONE);
        Doc.is("none in another HOUR", y.way(0, 1, 1, 0), NONE);
    }
}
