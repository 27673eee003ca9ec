/** Promise 7: resize; the words of REFLOW have a test of their own. */
public final class ResizeTest {
    private static final int LOW = Integer.MIN_VALUE;
    private static final int HIGH = Integer.MAX_VALUE;
    private static final int[] INTS = {LOW, LOW + 1, -17, -1, 0, 1, 2, 3, 4, 5, 7, 8, 9, 10, 15, 16, 17, 32, HIGH - 1, HIGH};

    private static int inside(int value, int least, int greatest) {
        return value < least ? least : value > greatest ? greatest : value;
    }

    private static void widths() {
        int[][] widths = {{LOW, 4}, {-1, 4}, {0, 4}, {3, 4}, {4, 4}, {5, 5}, {15, 15}, {16, 16}, {17, 16}, {HIGH, 16}};
        for (int[] pair : widths) {
            ReflowTerminal t = new ReflowTerminal(8, 3, 5);
            Checks.due("resize(" + pair[0] + ", 3)", t.resize(pair[0], 3), 0);
            Checks.due("sizes after it", Checks.sizes(t), pair[1] + "x3+5");
            Checks.due("last column", t.cell(0, pair[1] - 1), 32);
            Checks.due("behind it", t.cell(0, pair[1]), -1);
        }
    }

    private static void heights() {
        int[][] heights = {{LOW, 2}, {-1, 2}, {0, 2}, {1, 2}, {2, 2}, {3, 3}, {7, 7}, {8, 8}, {9, 8}, {HIGH, 8}};
        for (int[] pair : heights) {
            ReflowTerminal t = new ReflowTerminal(8, 3, 5);
            Checks.due("resize(8, " + pair[0] + ")", t.resize(8, pair[0]), 0);
            Checks.due("sizes after it", Checks.sizes(t), "8x" + pair[1] + "+5");
            Checks.due("last row", t.cell(pair[1] - 1, 0), 32);
            Checks.due("behind it", t.cell(pair[1], 0), -1);
        }
    }

    private static void neverRefused() {
        ReflowTerminal t = Checks.typed(8, 4, 3, "ABCDEFGHIJ");
        for (int width : INTS) {
            for (int height : INTS) {
                t.resize(width, height);
                String want = inside(width, 4, 16) + "x" + inside(height, 2, 8) + "+3";
                Checks.due("sizes after resize(" + width + ", " + height + ")", Checks.sizes(t), want);
            }
        }
    }

    private static void unchangedSizes() {
        ReflowTerminal t = Checks.drawn("^....|ABCX>|....", 0, 1, 3);
        Checks.pendingIn(t, 1);
        Checks.due("resize(4, 3)", t.resize(4, 3), 0);
        Checks.due("the blank end of the line goes, pending too", Checks.shown(t), "^....|ABCX|.... 1,3");
        t = Checks.drawn("^....|ABCX>|....", 0, 1, 2);
        Checks.due("resize(4, 3) without pending", t.resize(4, 3), 0);
        Checks.due("the blank end of the line goes", Checks.shown(t), "^....|ABCX|.... 1,2");
        t = Checks.drawn("AAAA|^....|....", 2, 0, 1);
        Checks.due("resize(4, 2)", t.resize(4, 2), 0);
        Checks.due("the scrollback comes back", Checks.shown(t), "^AAAA|.... 1,1");
        t = Checks.drawn("AAAA|BBBB|^CCCC|DDDD", 2, 1, 1);
        Checks.due("resize(4, 2) again", t.resize(4, 2), 0);
        Checks.due("a full buffer stays", Checks.shown(t), "AAAA|BBBB|^CCCC|DDDD 1,1");
        t = Checks.drawn("AAAA|BBBB|^CCCC|DDDD", 2, 0, 1);
        Checks.due("resize(4, 2) once more", t.resize(4, 2), 0);
        Checks.due("a full buffer stays, cursor above", Checks.shown(t), "AAAA|BBBB|^CCCC|DDDD 0,1");
    }

    private static void mainCursorInMainMode() {
        ReflowTerminal t = Checks.drawn("^ABCDEFGH>|IJ......|........", 2, 1, 2);
        t.resize(4, 3);
        Checks.due("cursor", Checks.cursor(t), "2,2");
        Checks.due("main cursor", Checks.mainCursor(t), "2,2");
    }

    private static void mainCursorInAlternateMode() {
        ReflowTerminal t = Checks.drawn("^ABCDEFGH>|IJKLMN..|........|........", 2, 1, 6);
        t.enterAlt();
        t.setCursor(2, 1);
        Checks.due("resize(4, 4)", t.resize(4, 4), 0);
        Checks.due("main cursor goes down", Checks.mainCursor(t), "3,2");
        Checks.due("alternate cursor stays", Checks.cursor(t), "2,1");
        Checks.due("resize(16, 4)", t.resize(16, 4), 0);
        Checks.due("main cursor goes up", Checks.mainCursor(t), "0,14");
        Checks.due("mode", t.info(ReflowTerminal.INFO_ALT), 1);
        t.leaveAlt();
        Checks.due("main screen", Checks.row(t, 0) + " " + Checks.cursor(t), "ABCDEFGHIJKLMN.. 0,14");
    }

    private static void savedPendingGoes() {
        ReflowTerminal t = Checks.typed(4, 2, 2, "ABCD");
        t.enterAlt();
        Checks.due("resize(4, 2)", t.resize(4, 2), 0);
        t.leaveAlt();
        Checks.due("cursor after leaving", Checks.cursor(t), "0,3");
    }

    private static ReflowTerminal alternate() {
        ReflowTerminal t = new ReflowTerminal(6, 4, 0);
        t.enterAlt();
        Checks.type(t, "ABCDEFGHIJKLMNOPQRSTUVWX");
        Checks.due("before", Checks.shown(t), "^ABCDEF>|GHIJKL>|MNOPQR>|STUVWX 3,5p");
        return t;
    }

    private static void kept(int width, int height, String want) {
        ReflowTerminal t = alternate();
        Checks.due("resize(" + width + ", " + height + ")", t.resize(width, height), 0);
        Checks.due("alternate screen after resize(" + width + ", " + height + ")", Checks.picture(t), want);
    }

    private static void alternateKeepsCells() {
        kept(6, 4, "^ABCDEF|GHIJKL|MNOPQR|STUVWX");
        kept(5, 3, "^ABCDE|GHIJK|MNOPQ");
        kept(7, 5, "^ABCDEF.|GHIJKL.|MNOPQR.|STUVWX.|.......");
        kept(4, 5, "^ABCD|GHIJ|MNOP|STUV|....");
        kept(8, 2, "^ABCDEF..|GHIJKL..");
        kept(LOW, HIGH, "^ABCD|GHIJ|MNOP|STUV|....|....|....|....");
        kept(0, 0, "^ABCD|GHIJ");
        kept(HIGH, LOW, "^ABCDEF..........|GHIJKL..........");
    }

    // The last row of a full main buffer is the neighbour of the first alternate row in many layouts of the rows.
    private static ReflowTerminal greatest() {
        ReflowTerminal t = new ReflowTerminal(16, 8, 16);
        for (int i = 0; i < 24 * 16; i++) {
            t.put('A' + i % 26);
        }
        t.setCursor(0, 0);
        t.enterAlt();
        for (int i = 0; i < 8 * 16; i++) {
            t.put('a' + i / 16);
        }
        return t;
    }

    private static void alternateAtTheGreatestSizes() {
        ReflowTerminal t = greatest();
        Checks.due("resize(16, 8)", t.resize(16, 8), 0);
        for (int r = 0; r < 8; r++) {
            Checks.due("row " + r, Checks.row(t, r), ("" + (char) ('a' + r)).repeat(16));
        }
        Checks.due("resize(16, 5)", t.resize(16, 5), 3);
        for (int r = 0; r < 5; r++) {
            Checks.due("row " + r + " of five", Checks.row(t, r), ("" + (char) ('a' + r)).repeat(16));
        }
    }

    private static void mainAtTheGreatestSizes() {
        ReflowTerminal t = greatest();
        Checks.due("resize(8, 8)", t.resize(8, 8), 16 + 8);
        Checks.due("main cursor", Checks.mainCursor(t), "0,0");
        t.leaveAlt();
        Checks.due("scrollback", t.info(ReflowTerminal.INFO_SCROLLBACK), 16);
        Checks.due("oldest row", Checks.row(t, -16), "YZABCDEF>");
        Checks.due("first row", Checks.row(t, 0), "WXYZABCD>");
        Checks.due("last row", Checks.row(t, 7), "ABCDEFGH>");
    }

    private static void alternateLosesTheRest() {
        ReflowTerminal t = alternate();
        t.resize(4, 2);
        t.resize(6, 4);
        Checks.due("smaller and back", Checks.picture(t), "^ABCD..|GHIJ..|......|......");
        t = alternate();
        t.resize(16, 2);
        t.resize(16, 8);
        Checks.due("rows that come back", Checks.row(t, 1) + Checks.row(t, 2), "GHIJKL" + ".".repeat(26));
    }

    private static void alternateFlags() {
        ReflowTerminal t = alternate();
        t.resize(6, 4);
        for (int r = 0; r < 4; r++) {
            Checks.due("wrapped(" + r + ")", t.wrapped(r), false);
        }
    }

    private static void alternateCursor(int row, int col, int width, int height, String want) {
        ReflowTerminal t = alternate();
        t.setCursor(row, col);
        t.resize(width, height);
        Checks.due("cursor from " + row + "," + col + " at " + width + "x" + height, Checks.cursor(t), want);
    }

    private static void alternateCursors() {
        alternateCursor(1, 2, 16, 8, "1,2");
        alternateCursor(2, 4, 5, 3, "2,4");
        alternateCursor(3, 5, 5, 3, "2,4");
        alternateCursor(3, 4, 5, 3, "2,4");
        alternateCursor(2, 5, 5, 3, "2,4");
        alternateCursor(3, 5, 4, 2, "1,3");
        alternateCursor(0, 0, 4, 2, "0,0");
        alternateCursor(3, 0, 4, 2, "1,0");
        alternateCursor(3, 5, LOW, LOW, "1,3");
        alternateCursor(3, 5, 0, 1, "1,3");
        alternateCursor(3, 5, HIGH, HIGH, "3,5");
        alternateCursor(3, 5, HIGH, LOW, "1,5");
    }

    private static void alternatePending() {
        int[][] sizes = {{6, 4}, {5, 4}, {8, 4}};
        for (int[] size : sizes) {
            ReflowTerminal t = alternate();
            t.resize(size[0], size[1]);
            Checks.due("cursor", Checks.cursor(t), "3," + (Math.min(6, size[0]) - 1));
        }
    }

    private static void alternateAfterMainResize() {
        ReflowTerminal t = alternate();
        t.leaveAlt();
        t.resize(8, 5);
        t.enterAlt();
        Checks.due("blank", Checks.shown(t), "^........|........|........|........|........ 0,0");
    }

    private static void region() {
        for (int height = 2; height <= 8; height++) {
            ReflowTerminal t = new ReflowTerminal(4, 4, 2);
            t.setScrollRegion(1, 2);
            t.resize(4, height);
            Checks.due("region in main mode", Checks.region(t), "0.." + (height - 1));
            t.enterAlt();
            t.setScrollRegion(0, 1);
            t.resize(5, height);
            Checks.due("region in alternate mode", Checks.region(t), "0.." + (height - 1));
        }
    }

    private static void lost() {
        ReflowTerminal front = Checks.typed(8, 2, 1, "ABCDEFGHIJKLMNOP");
        Checks.due("dropped from the front", front.resize(4, 2), 1);
        Checks.due("what is left", Checks.shown(front), "EFGH>|^IJKL>|MNOP 1,3");
        ReflowTerminal below = Checks.drawn("^A...|B...|C...|D...", 2, 0, 2);
        Checks.due("below the screen", below.resize(4, 2), 2);
        Checks.due("what is left", Checks.shown(below), "^A...|B... 0,2");
        ReflowTerminal both = Checks.drawn("^A...|B...|C...|D...|E...", 1, 2, 0);
        Checks.due("at both ends", both.resize(4, 2), 2);
        Checks.due("what is left", Checks.shown(both), "B...|^C...|D... 0,0");
        ReflowTerminal none = Checks.drawn("^A...|B...|C...|D...|....", 2, 3, 0);
        Checks.due("none", none.resize(4, 2), 0);
        Checks.due("all is there", Checks.shown(none), "A...|B...|^C...|D... 1,0");
    }

    private static void lostInAlternateMode() {
        ReflowTerminal t = Checks.drawn("^A...|B...|C...|D...|E...", 1, 2, 0);
        t.enterAlt();
        Checks.type(t, "vwxyz");
        Checks.due("rows of the main buffer count", t.resize(4, 2), 2);
        Checks.due("alternate screen", Checks.shown(t), "B...|^vwxy|z... 1,1");
        t.leaveAlt();
        Checks.due("main buffer", Checks.shown(t), "B...|^C...|D... 0,0");
    }

    private static void capacityStays() {
        for (int capacity = 0; capacity <= 16; capacity++) {
            ReflowTerminal t = new ReflowTerminal(4, 2, capacity);
            t.resize(16, 8);
            t.resize(4, 3);
            Checks.due("capacity", t.info(ReflowTerminal.INFO_CAPACITY), capacity);
            for (int i = 0; i < 40; i++) {
                t.put('\n');
            }
            Checks.due("rows it takes", t.info(ReflowTerminal.INFO_SCROLLBACK), capacity);
        }
    }

    private static ReflowTerminal full(int width, int height, int capacity, int row, int col) {
        ReflowTerminal t = new ReflowTerminal(width, height, capacity);
        for (int i = 0; i < 400; i++) {
            t.put(i % 37 == 36 ? 10 : i % 11 == 10 ? 32 : 65 + i % 26);
        }
        t.setCursor(row, col);
        return t;
    }

    private static void cursorInside() {
        for (int width = 4; width <= 16; width++) {
            for (int height = 2; height <= 8; height++) {
                for (int row = 0; row < 5; row++) {
                    ReflowTerminal t = full(11, 5, 3, row, 2 * row + 2);
                    t.resize(width, height);
                    int y = t.info(ReflowTerminal.INFO_MAIN_ROW);
                    int x = t.info(ReflowTerminal.INFO_MAIN_COL);
                    Checks.due("main cursor inside", y >= 0 && y < height && x >= 0 && x < width, true);
                }
            }
        }
    }

    private static String told(ReflowTerminal t) {
        int[] ints = {LOW, -1, HIGH};
        StringBuilder all = new StringBuilder(Checks.lines(t));
        for (int i : ints) {
            all.append(' ').append(t.lineLength(i)).append(' ').append(t.lineChar(i, 0)).append(' ').append(t.lineChar(0, i));
        }
        for (int i = 0; i < 25; i++) {
            int length = t.lineLength(i);
            all.append(' ').append(length).append(' ').append(t.lineChar(i, length)).append(' ').append(t.lineChar(i, 0));
        }
        return all.toString();
    }

    private static void linesStay(ReflowTerminal t, int width, int height) {
        String before = told(t);
        if (t.resize(width, height) == 0) {
            Checks.due("lines after resize(" + width + ", " + height + ")", told(t), before);
        }
    }

    private static void nothingLost() {
        for (int width = 4; width <= 16; width++) {
            for (int height = 2; height <= 8; height++) {
                for (int row = 0; row < 3; row++) {
                    linesStay(full(9, 3, 16, row, 3 * row), width, height);
                    ReflowTerminal alternate = full(7, 3, 8, row, 2 * row);
                    alternate.enterAlt();
                    Checks.type(alternate, "xyz");
                    linesStay(alternate, width, height);
                }
            }
        }
    }

    private static void runOfResizes() {
        ReflowTerminal t = Checks.drawn("AB.D>|^E...>|....|....|..F.|....", 16, 3, 1);
        String before = told(t);
        Checks.due("lines before", Checks.lines(t), "AB.DE||..F@2,1");
        int[][] sizes = {{16, 8}, {4, 2}, {5, 3}, {4, 2}, {7, 8}, {16, 2}, {LOW, LOW}, {HIGH, HIGH}, {6, 4}, {6, 4}};
        for (int[] size : sizes) {
            Checks.due("resize(" + size[0] + ", " + size[1] + ")", t.resize(size[0], size[1]), 0);
            Checks.due("lines after it", told(t), before);
        }
        t.enterAlt();
        for (int[] size : sizes) {
            Checks.due("alternate resize(" + size[0] + ", " + size[1] + ")", t.resize(size[0], size[1]), 0);
            Checks.due("lines after it", told(t), before);
        }
    }

    public static void main(String[] args) {
        Checks.sentence("W2 = width clamped into 4..16", ResizeTest::widths);
        Checks.sentence("H2 = height clamped into 2..8 (for every int)", ResizeTest::heights);
        Checks.sentence("is never refused", ResizeTest::neverRefused);
        Checks.sentence("This happens also when sizes are unchanged.", ResizeTest::unchangedSizes);
        Checks.sentence("In main mode step 5 sets the active cursor", ResizeTest::mainCursorInMainMode);
        Checks.sentence("in alternate mode its step 5 sets the saved main cursor",
            ResizeTest::mainCursorInAlternateMode);
        Checks.sentence("in alternate mode its step 5 sets the saved main cursor [not pending]",
            ResizeTest::savedPendingGoes);
        Checks.sentence("the alternate screen keeps cell (r,c) for r < min(H,H2) and c < min(W,W2)",
            ResizeTest::alternateKeepsCells);
        Checks.sentence("r < min(H,H2) and c < min(W,W2) [at the greatest sizes]",
            ResizeTest::alternateAtTheGreatestSizes);
        Checks.sentence("every other cell BLANK", ResizeTest::alternateLosesTheRest);
        Checks.sentence("every alternate flag false", ResizeTest::alternateFlags);
        Checks.sentence("active cursor y = min(y,H2-1), x = min(x,W2-1)", ResizeTest::alternateCursors);
        Checks.sentence("x = min(x,W2-1), not pending", ResizeTest::alternatePending);
        Checks.sentence("In main mode: every alternate cell BLANK, every alternate flag false.",
            ResizeTest::alternateAfterMainResize);
        Checks.sentence("Then W = W2, H = H2, region 0..H-1.", ResizeTest::region);
        Checks.sentence("Answers lost, the number of reflowed rows that no longer fit: those dropped from the front because"
            + " the scrollback is full plus those below the screen.", ResizeTest::lost);
        Checks.sentence("REFLOW of the main buffer to W2, H2 [in alternate mode]", ResizeTest::lostInAlternateMode);
        Checks.sentence("REFLOW of the main buffer to W2, H2 [in alternate mode, at the greatest sizes]",
            ResizeTest::mainAtTheGreatestSizes);
        Checks.sentence("S never changes.", ResizeTest::capacityStays);
        Checks.sentence("the main cursor is always inside the main screen", ResizeTest::cursorInside);
        Checks.sentence("When a resize answers 0, the following are equal immediately before and immediately after the call,"
            + " in main or alternate mode", ResizeTest::nothingLost);
        Checks.sentence("This carries over any run of consecutive resizes that all answer 0.",
            ResizeTest::runOfResizes);
        Checks.finish();
    }
}
