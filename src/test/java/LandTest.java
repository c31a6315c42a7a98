/** Promises 15 to 22. */
public final class LandTest {
    private static final int BAD = -1, FULL = -3, NONE = -4;
    private static final int[] EXTREMES = {Integer.MIN_VALUE, Integer.MIN_VALUE + 9, -5, -4, -3, -2, -1, 100, Integer.MAX_VALUE};

    public static void main(String[] args) {
        placesAndRidges();
        sheets();
        wind();
        blur();
        hears();
        way();
        wayAmongMany();
        Due.finish();
    }

    private static void placesAndRidges() {
        WhistledWords x = new WhistledWords();
        for (int n : EXTREMES) {
            Due.is(15, "x " + n, x.place(n, 0, 0), BAD);
            Due.is(15, "y " + n, x.place(0, n, 0), BAD);
            Due.is(15, "height " + n, x.place(0, 0, n), BAD);
            Due.is(16, "x " + n, x.ridge(n, 0), BAD);
            Due.is(16, "height " + n, x.ridge(0, n), BAD);
        }
        Due.is(34, "none came", x.count(3) + x.count(4), 0);
        for (int i = 0; i < 10; i++) {
            Due.is(15, "place " + i, x.place(i % 2 * 99, i % 3 * 49, 99), i);
        }
        Due.is(15, "the 11th", x.place(0, 0, 0), FULL);
        Due.is(15, "BAD ahead of FULL", x.place(0, 0, 100), BAD);
        for (int i = 1; i <= 6; i++) {
            Due.is(16, "ridge " + i, x.ridge(99, 0), i);
        }
        Due.is(16, "the 7th", x.ridge(0, 99), FULL);
        Due.is(16, "BAD ahead of FULL", x.ridge(100, 0), BAD);
        Due.is(34, "places", x.count(3), 10);
        Due.is(34, "ridges", x.count(4), 6);
    }

    private static void sheets() {
        WhistledWords x = Due.speaking(Due.TONGUE);
        Due.is(17, "n 61", x.sheet(0, 0, 61), BAD);
        Due.is(17, "n -1", x.sheet(0, 0, -1), -14);
        Due.is(17, "n at the bottom", x.sheet(3, 2, Integer.MIN_VALUE), -14);
        Due.is(17, "lane ahead of SIZE", x.sheet(0, 3, -1), BAD);
        Due.is(17, "sheet ahead of SIZE", x.sheet(4, 0, -1), BAD);
        Due.is(17, "refused", x.count(9), NONE);
        Due.is(18, "nothing", x.lay(0, 0, 1), -11);
        Due.is(18, "nothing ahead of INDEX", x.lay(0, -1, 1), -11);
        Due.is(17, "60 cells", x.sheet(0, 0, 60), 1);
        Due.is(34, "60 cells", x.count(9), 60);
        Due.is(18, "cell 59", x.lay(0, 59, 1), 1);
        Due.is(18, "cell 60", x.lay(0, 60, 1), -12);
        Due.is(18, "cell -1", x.lay(0, -1, 1), -12);
        Due.is(17, "SIZE", x.sheet(0, 0, -1), -14);
        Due.is(34, "it stays", x.count(9), 60);
        Due.is(18, "cell 5", x.lay(0, 5, 2), 1);
        Due.is(19, "wind 5", x.wind(5, 0), 2);
        Due.is(17, "a new one", x.sheet(0, 0, 7), 1);
        Due.is(19, "CELLS are 0 anew", x.wind(5, 0), 0);
        Due.is(18, "cell 7", x.lay(0, 7, 2), -12);
        x.lay(0, 0, 1);
        x.lay(0, 6, 1);
        Due.is(17, "a new one", x.sheet(0, 0, 7), 1);
        Due.is(19, "the first CELL is 0 anew", x.wind(0, 0), 0);
        Due.is(19, "the last CELL is 0 anew", x.wind(6, 0), 0);
        Due.is(17, "of no cells", x.sheet(0, 2, 0), 1);
        Due.is(34, "of no cells", x.count(9), 0);
        Due.is(18, "of no cells", x.lay(0, 0, 0), -12);
        lowestBits(x);
        for (int n : EXTREMES) {
            Due.is(17, "sheet " + n, x.sheet(n, 0, 1), BAD);
            Due.is(17, "lane " + n, x.sheet(0, n, 1), BAD);
            Due.is(17, "n " + n, x.sheet(0, 0, n), n < 0 ? -14 : BAD);
            Due.is(18, "sheet " + n, x.lay(n, 0, 1), BAD);
            Due.is(18, "cell " + n, x.lay(1, n, 1), -12);
        }
        Due.is(18, "sheet 4", x.lay(4, 0, 1), BAD);
    }

    /** What a CELL keeps is told by the rows that it MEANS: WORD 3 is MARK 4. */
    private static void lowestBits(WhistledWords x) {
        int[][] laid = {{4, 8, 8, 8}, {260, 8, 0, 0}, {65540, 8, 8, 0}, {-252, 8, 0, 0}, {-65532, 8, 8, 0}, {-4, 0, 0, 0}};
        for (int lane = 0; lane < 3; lane++) {
            x.sheet(1, lane, 1);
            for (int[] row : laid) {
                x.lay(1, 0, row[0]);
                Due.is(18, "lay " + row[0] + " in lane " + lane, x.means(1, 0, 1, lane, 0, 1), row[1 + lane]);
            }
        }
        x.sheet(0, 0, 1);
        x.lay(0, 0, 128);
        Due.is(18, "a BYTE has a sign", x.wind(0, 0), -2);
        x.lay(0, 0, 255);
        Due.is(18, "a BYTE has a sign", x.wind(0, 0), -1);
    }

    private static void wind() {
        WhistledWords x = new WhistledWords();
        Due.is(19, "nothing", x.wind(0, 0), 9);
        Due.is(19, "nothing", x.wind(0, 1), 1);
        x.sheet(0, 1, 24);
        Due.is(19, "SHORTS", x.wind(0, 0), 9);
        Due.is(19, "SHORTS", x.wind(0, 1), 3);
        x.sheet(0, 2, 0);
        Due.is(19, "INTS, CAST ahead of INDEX", x.wind(0, 1), 3);
        x.sheet(1, 0, 24);
        Due.is(19, "SHEET 0 counts", x.wind(0, 1), 3);
        x.sheet(0, 0, 24);
        int[] laid = {0, 1, 2, 3, 127, -1, -2, -3, -128, 128, 256};
        int[] due = {0, 1, 2, 2, 2, -1, -2, -2, -2, -2, 0};
        for (int i = 0; i < laid.length; i++) {
            x.lay(0, 23, laid[i]);
            Due.is(19, "wind of " + laid[i], x.wind(23, 0), due[i]);
            Due.is(19, "no fault", x.wind(23, 1), 0);
        }
        x.sheet(0, 0, 6);
        Due.is(19, "hour 5", x.wind(5, 1), 0);
        Due.is(19, "hour 6", x.wind(6, 0), 9);
        Due.is(19, "hour 6", x.wind(6, 1), 2);
        Due.is(19, "hour 24", x.wind(24, 0), -10);
        Due.is(19, "what 2", x.wind(0, 2), -10);
        for (int n : EXTREMES) {
            Due.is(19, "hour " + n, x.wind(n, 0), -10);
            Due.is(19, "hour " + n, x.wind(n, 1), -10);
            Due.is(19, "what " + n, x.wind(0, n), -10);
        }
    }

    private static WhistledWords calm() {
        WhistledWords x = new WhistledWords();
        x.sheet(0, 0, 24);
        return x;
    }

    private static void blur() {
        WhistledWords x = calm();
        x.place(10, 10, 50);
        x.place(49, 10, 20);
        x.place(10, 50, 50);
        x.place(29, 30, 50);
        Due.is(20, "39 far", x.blur(0, 1, 0), 1);
        Due.is(20, "40 far", x.blur(0, 2, 0), 2);
        Due.is(20, "19 and 20 far", x.blur(3, 0, 0), 1);
        Due.is(20, "one and the same", x.blur(1, 1, 0), 0);
        x.ridge(10, 99);
        Due.is(20, "a ridge at the less x", x.blur(0, 1, 0), 1);
        Due.is(20, "a ridge at the same x", x.blur(0, 2, 0), 2);
        x.ridge(49, 50);
        Due.is(20, "a ridge at the greater x, higher than one", x.blur(0, 1, 0), 2);
        Due.is(20, "the other way round", x.blur(1, 0, 0), 2);
        x.ridge(11, 51);
        Due.is(20, "higher than both", x.blur(0, 1, 0), 4);
        x.ridge(50, 99);
        Due.is(20, "beyond", x.blur(0, 1, 0), 4);
        x.ridge(30, 20);
        Due.is(20, "not higher", x.blur(0, 1, 0), 4);
        x.ridge(30, 99);
        Due.is(20, "two higher than both", x.blur(0, 1, 0), 6);
        x.lay(0, 1, 2);
        x.lay(0, 2, -1);
        Due.is(20, "less wind", x.blur(0, 1, 1), 4);
        Due.is(20, "more wind", x.blur(1, 0, 1), 8);
        Due.is(20, "less wind below 0", x.blur(0, 1, 2), 7);
        Due.is(20, "more wind below 0", x.blur(1, 0, 2), 5);
        Due.is(20, "same x", x.blur(0, 2, 1), 2);
        Due.is(20, "same x", x.blur(2, 0, 1), 2);
        Due.is(20, "held to 0", calmPair().blur(0, 1, 1), 0);
        Due.is(20, "not held", calmPair().blur(1, 0, 1), 2);
        x.sheet(0, 0, 1);
        Due.is(20, "UNKNOWN", x.blur(0, 1, 1), 8);
        Due.is(20, "UNKNOWN", x.blur(1, 0, 1), 8);
        Due.is(20, "UNKNOWN, same x", x.blur(0, 2, 1), 4);
        Due.is(20, "UNKNOWN, the same", x.blur(2, 2, 1), 0);
        Due.is(20, "no place", x.blur(4, 0, 0), BAD);
        Due.is(20, "no place", x.blur(0, 4, 0), BAD);
        Due.is(20, "no place, the same", x.blur(4, 4, 0), BAD);
        Due.is(20, "hour 24", x.blur(0, 1, 24), BAD);
        Due.is(20, "hour 24, the same", x.blur(1, 1, 24), BAD);
        for (int n : EXTREMES) {
            Due.is(20, "a " + n, x.blur(n, 0, 0), BAD);
            Due.is(20, "b " + n, x.blur(0, n, 0), BAD);
            Due.is(20, "hour " + n, x.blur(0, 1, n), BAD);
        }
    }

    private static WhistledWords calmPair() {
        WhistledWords x = calm();
        x.lay(0, 1, 2);
        x.place(10, 10, 10);
        x.place(11, 10, 10);
        return x;
    }

    private static void hears() {
        WhistledWords x = calm();
        x.place(0, 0, 50);
        Due.is(21, "alone", x.hears(0, 0, 0), 0);
        Due.is(21, "alone", x.hears(0, 0, 1), 0);
        Due.is(21, "alone", x.hears(0, 0, 2), 0);
        x.place(99, 0, 50);
        x.place(99, 20, 50);
        x.place(99, 21, 50);
        x.lay(0, 1, 1);
        x.lay(0, 2, -1);
        Due.is(21, "4, 5 and 6", x.hears(0, 0, 2), 6);
        x.ridge(50, 51);
        Due.is(21, "6, 7 and 8", x.hears(0, 0, 2), 0);
        Due.is(21, "less 1: 5, 6", x.hears(0, 1, 0), 1);
        Due.is(21, "less 1: 5, 6", x.hears(0, 1, 2), 2);
        Due.is(21, "against it: 7, 8", x.hears(0, 1, 1), 0);
        Due.is(21, "of the greater x", x.hears(1, 1, 1), 3);
        Due.is(21, "of the greater x", x.hears(1, 1, 0), 2);
        Due.is(21, "of the greater x", x.hears(1, 2, 2), 13);
        Due.is(21, "what 3", x.hears(0, 0, 3), BAD);
        Due.is(21, "no place", x.hears(4, 0, 0), BAD);
        Due.is(21, "hour 24", x.hears(0, 24, 0), BAD);
        for (int n : EXTREMES) {
            Due.is(21, "a " + n, x.hears(n, 0, 0), BAD);
            Due.is(21, "hour " + n, x.hears(0, n, 0), BAD);
            Due.is(21, "what " + n, x.hears(0, 0, n), BAD);
        }
    }

    private static void wayIs(WhistledWords x, int a, int b, int blur, int... due) {
        Due.is(22, "its BLUR", x.way(a, b, 0, 0), blur);
        Due.is(22, "its PLACES", x.way(a, b, 0, 1), due.length);
        for (int i = 0; i < due.length; i++) {
            Due.is(22, "PLACE " + i, x.way(a, b, 0, 10 + i), due[i]);
        }
        Due.is(22, "not so long", x.way(a, b, 0, 10 + due.length), NONE);
        Due.is(22, "not so long", x.way(a, b, 0, Integer.MAX_VALUE), NONE);
    }

    private static void way() {
        WhistledWords x = calm();
        x.place(0, 0, 50);
        x.place(0, 80, 50);
        wayIs(x, 0, 1, 4, 0, 1);
        x.place(0, 41, 50);
        wayIs(x, 0, 1, 2, 0, 2, 1);
        x.place(0, 40, 50);
        wayIs(x, 0, 1, 2, 0, 2, 1);
        x.place(0, 39, 50);
        wayIs(x, 0, 1, 1, 0, 4, 2, 1);
        x.place(20, 60, 50);
        wayIs(x, 0, 1, 1, 0, 4, 2, 1);
        x.place(0, 19, 50);
        x.place(0, 58, 50);
        wayIs(x, 0, 1, 1, 0, 4, 2, 1);
        wayIs(x, 1, 0, 1, 1, 2, 4, 0);
        for (int what = 2; what < 10; what++) {
            Due.is(22, "what " + what, x.way(0, 1, 0, what), BAD);
        }
        Due.is(22, "one and the same", x.way(2, 2, 0, 0), BAD);
        Due.is(22, "no place", x.way(8, 0, 0, 0), BAD);
        Due.is(22, "no place", x.way(0, 8, 0, 0), BAD);
        Due.is(22, "hour 24", x.way(0, 1, 24, 0), BAD);
        for (int n : EXTREMES) {
            Due.is(22, "a " + n, x.way(n, 0, 0, 0), BAD);
            Due.is(22, "b " + n, x.way(0, n, 0, 0), BAD);
            Due.is(22, "hour " + n, x.way(0, 1, n, 0), BAD);
            Due.is(22, "what " + n, x.way(0, 1, 0, n), n < 0 ? BAD : NONE);
        }
        noWay();
    }

    private static void noWay() {
        WhistledWords x = calm();
        x.place(0, 0, 50);
        x.place(99, 99, 50);
        Due.is(22, "too far", x.way(0, 1, 0, 0), NONE);
        Due.is(22, "too far", x.way(0, 1, 0, 1), NONE);
        Due.is(22, "too far", x.way(0, 1, 0, 10), NONE);
        Due.is(22, "too far, but what", x.way(0, 1, 0, 5), BAD);
        x.place(50, 50, 50);
        wayIs(x, 0, 1, 5, 0, 2, 1);
        x.lay(0, 0, -2);
        Due.is(22, "against the wind", x.way(0, 1, 0, 0), NONE);
        wayIs(x, 1, 0, 3, 1, 2, 0);
        WhistledWords y = new WhistledWords();
        y.place(0, 0, 0);
        y.place(19, 0, 0);
        Due.is(22, "UNKNOWN wind", y.way(0, 1, 0, 0), 2);
    }

    private static void wayAmongMany() {
        WhistledWords x = calm();
        for (int i = 9; i >= 0; i--) {
            x.place(0, i * 11, 0);
        }
        wayIs(x, 9, 0, 0, 9, 8, 7, 6, 5, 4, 3, 2, 1, 0);
        wayIs(x, 0, 9, 0, 0, 1, 2, 3, 4, 5, 6, 7, 8, 9);
    }
}
