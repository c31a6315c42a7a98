import java.io.IOException;

/** Every sentence of the document that names a boundary case, quoted, with the calls of that case. */
public final class EdgesTest {
    /** Numbers that are outside all bounds of the document, those among them whose sums and differences wrap around. */
    static final int[] OUTSIDE = {Integer.MIN_VALUE, Integer.MIN_VALUE + 1, Integer.MIN_VALUE + 9, Integer.MIN_VALUE + 10,
        Integer.MIN_VALUE + 11, -65536, -256, -100, -11, -10, -5, -3, -2, -1, 65536, Integer.MAX_VALUE - 9, Integer.MAX_VALUE};

    public static void main(String[] args) throws IOException {
        Doc.open();
        TextEdges.run();
        TongueEdges.run();
        LandEdges.run();
        CallsEdges.run();
        ChildrenEdges.run();
        RefusedEdges.run();
        calls512();
        Doc.finish();
        Due.finish();
    }

    /** The 512th call is answered as the first is, and one object's calls do not matter to another. */
    private static void calls512() {
        Doc.says(Doc.FIRST, "An object is used for at most 512 calls after it has been made;");
        WhistledWords x = new WhistledWords();
        WhistledWords y = new WhistledWords();
        for (int call = 0; call < 511; call += 7) {
            Doc.is("feed ahead of " + call, x.feed(0x6d757465206d3b20L), 8);
            Doc.is("tongue ahead of " + call, x.tongue(), 0);
            Doc.is("LETTERS ahead of " + call, x.count(2), 1);
            Doc.is("sheet ahead of " + call, x.sheet(0, 0, 60), 1);
            Doc.is("lay ahead of " + call, x.lay(0, 0, call), 1);
            Doc.is("place ahead of " + call, x.place(0, 0, 0), call < 70 ? call / 7 : WhistledWords.FULL);
            Doc.is("hears ahead of " + call, x.hears(0, 1, 0), Math.min(9, call / 7));
        }
        Doc.is("the 512th", x.count(3), 10);
        for (int what = 0; what < 9; what++) {
            Doc.is("another object", y.count(what), 0);
        }
        Doc.is("another object", y.count(9), WhistledWords.NONE);
    }
}
