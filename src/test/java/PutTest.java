/** Promise 2: put. */
public final class PutTest {
    private static final String ROWS = "^AAAA>|BBBB|CCCC";

    private static ReflowTerminal pending(int top, int bottom, int row) {
        ReflowTerminal t = Checks.drawn("^AAAA|BBBB|CCCC|DDDD", 4, 0, 0);
        Checks.within(t, top, bottom, row, 0);
        Checks.pendingIn(t, row);
        return t;
    }

    private static void printableCodes() {
        ReflowTerminal t = new ReflowTerminal(4, 2, 0);
        for (int c = 32; c <= 126; c++) {
            t.setCursor(1, 2);
            Checks.due("put(" + c + ")", t.put(c), true);
            Checks.due("cell after put(" + c + ")", t.cell(1, 2), c);
            Checks.due("cursor after put(" + c + ")", Checks.cursor(t), "1,3");
        }
    }

    private static void wrapOfPendingCursor() {
        ReflowTerminal t = Checks.typed(4, 3, 2, "ABCD");
        Checks.due("no flag before the wrap", Checks.shown(t), "^ABCD|....|.... 0,3p");
        Checks.type(t, "E");
        Checks.due("the wrap", Checks.shown(t), "^ABCD>|E...|.... 1,1");
    }

    private static void blankWrapsToo() {
        ReflowTerminal t = Checks.typed(4, 3, 2, "ABC  ");
        Checks.due("a blank is printed as any code", Checks.shown(t), "^ABC.>|....|.... 1,1");
    }

    private static void noWrapWithoutPending() {
        ReflowTerminal t = Checks.drawn(ROWS, 0, 1, 3);
        Checks.type(t, "x");
        Checks.due("first character in the last column", Checks.shown(t), "^AAAA>|BBBx|CCCC 1,3p");
        t.setCursor(0, 1);
        Checks.type(t, "y");
        Checks.due("a wrapped row keeps its flag", Checks.shown(t), "^AyAA>|BBBx|CCCC 0,2");
    }

    private static void lastColumn(int width) {
        ReflowTerminal t = new ReflowTerminal(width, 2, 0);
        t.setCursor(0, width - 2);
        Checks.type(t, "x");
        Checks.due("before the last column of " + width, Checks.cursor(t), "0," + (width - 1));
        Checks.type(t, "y");
        Checks.due("in the last column of " + width, Checks.cursor(t), "0," + (width - 1) + "p");
        Checks.type(t, "z");
        Checks.due("behind it", Checks.cursor(t), "1,1");
        Checks.due("cells", t.cell(0, width - 2) + "," + t.cell(0, width - 1) + "," + t.cell(1, 0), "120,121,122");
    }

    private static void lastColumns() {
        for (int width = 4; width <= 16; width++) {
            lastColumn(width);
        }
    }

    private static void wrapScrollsTheRegion() {
        ReflowTerminal t = pending(1, 2, 2);
        Checks.type(t, "x");
        Checks.due("region 1..2", Checks.shown(t), "^AAAA|CCCC>|x...|DDDD 2,1");
    }

    private static void wrapFillsTheScrollback() {
        ReflowTerminal t = pending(0, 3, 3);
        Checks.type(t, "x");
        Checks.due("region 0..3", Checks.shown(t), "AAAA|^BBBB|CCCC|DDDD>|x... 3,1");
        t = pending(0, 1, 1);
        Checks.type(t, "x");
        Checks.due("region 0..1", Checks.shown(t), "AAAA|^BBBB>|x...|CCCC|DDDD 1,1");
    }

    private static void wrapBelowTheRegion() {
        ReflowTerminal t = pending(0, 2, 3);
        Checks.type(t, "x");
        Checks.due("last row below the region", Checks.shown(t), "^AAAA|BBBB|CCCC|xDDD> 3,1");
        Checks.type(t, "yzwv");
        Checks.due("and once more", Checks.shown(t), "^AAAA|BBBB|CCCC|vyzw> 3,1");
    }

    private static void carriageReturn() {
        ReflowTerminal t = Checks.drawn(ROWS, 0, 1, 2);
        Checks.type(t, "\r");
        Checks.due("from the middle", Checks.shown(t), ROWS + " 1,0");
        Checks.type(t, "\r");
        Checks.due("from column 0", Checks.shown(t), ROWS + " 1,0");
        Checks.pendingIn(t, 0);
        Checks.type(t, "\r");
        Checks.due("from a pending cursor", Checks.shown(t), ROWS + " 0,0");
        Checks.type(t, "x");
        Checks.due("and no wrap follows", Checks.shown(t), "^xAAA>|BBBB|CCCC 0,1");
    }

    private static void lineFeed() {
        ReflowTerminal t = Checks.drawn(ROWS, 1, 0, 2);
        Checks.type(t, "\n");
        Checks.due("the column stays", Checks.shown(t), ROWS + " 1,2");
        Checks.pendingIn(t, 1);
        Checks.type(t, "\n");
        Checks.due("pending goes, no flag is set", Checks.shown(t), ROWS + " 2,3");
        Checks.pendingIn(t, 2);
        Checks.type(t, "\n");
        Checks.due("pending goes with a scroll", Checks.shown(t), "AAAA>|^BBBB|CCCC|.... 2,3");
    }

    private static void lineFeedThatMovesNothing() {
        ReflowTerminal t = Checks.drawn(ROWS, 1, 0, 0);
        Checks.within(t, 0, 1, 2, 0);
        Checks.pendingIn(t, 2);
        Checks.type(t, "\n");
        Checks.due("pending goes all the same", Checks.shown(t), ROWS + " 2,3");
    }

    private static void backspace() {
        ReflowTerminal t = Checks.drawn(ROWS, 0, 1, 2);
        Checks.type(t, "\b");
        Checks.due("from column 2", Checks.shown(t), ROWS + " 1,1");
        Checks.type(t, "\b");
        Checks.due("from column 1", Checks.shown(t), ROWS + " 1,0");
        Checks.type(t, "\b");
        Checks.due("from column 0", Checks.shown(t), ROWS + " 1,0");
    }

    private static void backspaceFromPending() {
        ReflowTerminal t = Checks.drawn(ROWS, 0, 0, 0);
        Checks.pendingIn(t, 0);
        Checks.type(t, "\b");
        Checks.due("pending goes and the column too", Checks.shown(t), ROWS + " 0,2");
    }

    private static void tabbed(int width, int col, int want) {
        ReflowTerminal t = new ReflowTerminal(width, 2, 0);
        t.setCursor(1, col);
        Checks.type(t, "\t");
        Checks.due("TAB from " + col + " at width " + width, Checks.cursor(t), "1," + want);
    }

    private static void tab() {
        int[][] due = {{4, 0, 3}, {4, 2, 3}, {4, 3, 3}, {7, 0, 6}, {8, 0, 7}, {8, 6, 7}, {8, 7, 7}, {9, 0, 8}, {9, 7, 8},
            {9, 8, 8}, {10, 0, 8}, {10, 7, 8}, {10, 8, 9}, {10, 9, 9}, {15, 8, 14}, {16, 0, 8}, {16, 1, 8}, {16, 7, 8},
            {16, 8, 15}, {16, 9, 15}, {16, 14, 15}, {16, 15, 15}};
        for (int[] row : due) {
            tabbed(row[0], row[1], row[2]);
        }
    }

    private static void tabFromPending() {
        ReflowTerminal t = Checks.drawn(ROWS, 0, 0, 0);
        Checks.pendingIn(t, 0);
        Checks.type(t, "\t");
        Checks.due("pending goes, no cell changes", Checks.shown(t), ROWS + " 0,3");
    }

    private static boolean isControl(int c) {
        return c == 8 || c == 9 || c == 10 || c == 13;
    }

    private static ReflowTerminal pendingInAlternate() {
        ReflowTerminal t = Checks.drawn("ZZZZ|^AAAA>|BBBB|CCCC", 2, 0, 0);
        Checks.pendingIn(t, 2);
        t.enterAlt();
        Checks.type(t, "uvwxyz12");
        return t;
    }

    private static void refusals() {
        int[] far = {Integer.MIN_VALUE, Integer.MIN_VALUE + 65, -65536, -256 + 65, 256 + 10, 256 + 65, 65536 + 65,
            Integer.MAX_VALUE};
        for (int c : far) {
            Checks.refused("put(" + c + ")", PutTest::pendingInAlternate, t -> t.put(c));
            Checks.refused("put(" + c + ")", () -> pending(1, 2, 2), t -> t.put(c));
        }
        for (int near = -20; near < 160; near++) {
            int c = near;
            if (!isControl(c) && (c < 32 || c > 126)) {
                Checks.refused("put(" + c + ")", () -> pending(1, 2, 2), t -> t.put(c));
            }
        }
    }

    private static String allBut(ReflowTerminal t) {
        return Checks.mainCursor(t) + " " + Checks.region(t) + " " + t.info(ReflowTerminal.INFO_ALT) + " " + Checks.sizes(t);
    }

    private static void settingsStay() {
        ReflowTerminal t = pendingInAlternate();
        Checks.within(t, 1, 2, 2, 3);
        for (int c : new int[] {'x', 'y', 13, 10, 8, 9, ' ', '~'}) {
            Checks.due("put(" + c + ")", t.put(c), true);
            Checks.due("all but the screen after put(" + c + ")", allBut(t), "2,3 1..2 1 4x3+2");
        }
        t.leaveAlt();
        Checks.due("the saved cursor", Checks.cursor(t), "2,3p");
    }

    private static void regionStaysInMainMode() {
        ReflowTerminal t = pending(0, 2, 2);
        Checks.type(t, "x\n\n\r\t\bABCDEFGHI");
        Checks.due("region", Checks.region(t), "0..2");
        Checks.due("mode", t.info(ReflowTerminal.INFO_ALT), 0);
        Checks.due("sizes", Checks.sizes(t), "4x4+4");
    }

    private static void alternateLeavesMain() {
        ReflowTerminal t = Checks.drawn("ZZZZ|^AAAA>|BBBB|CCCC", 3, 1, 2);
        String lines = Checks.lines(t);
        t.enterAlt();
        Checks.type(t, "uvwxyz1234567890\r\n\n\n\t!\b?");
        Checks.due("alternate screen", Checks.shown(t), "ZZZZ|^....|....|..?! 2,3");
        Checks.due("lines", Checks.lines(t), lines);
        t.leaveAlt();
        Checks.due("main buffer", Checks.shown(t), "ZZZZ|^AAAA>|BBBB|CCCC 1,2");
    }

    private static void onlyOneCellChanges() {
        ReflowTerminal t = Checks.drawn("ZZZZ>|^AAAA>|BBBB>|CCCC", 3, 1, 1);
        Checks.type(t, "x");
        Checks.due("one cell", Checks.shown(t), "ZZZZ>|^AAAA>|BxBB>|CCCC 1,2");
        Checks.type(t, "\r\n\b\t");
        Checks.due("controls change none", Checks.shown(t), "ZZZZ>|^AAAA>|BxBB>|CCCC 2,3");
    }

    private static void greatestSizes() {
        ReflowTerminal t = new ReflowTerminal(16, 8, 16);
        for (int i = 0; i < 30 * 16; i++) {
            t.put('A' + i / 16 % 26);
        }
        Checks.due("oldest row", Checks.row(t, -16), "G".repeat(16) + ">");
        Checks.due("newest row of the scrollback", Checks.row(t, -1), "V".repeat(16) + ">");
        Checks.due("last row", Checks.row(t, 7), "D".repeat(16));
        t.enterAlt();
        for (int i = 0; i < 10 * 16; i++) {
            t.put('a' + i / 16);
        }
        Checks.due("first row of the alternate screen", Checks.row(t, 0), "c".repeat(16) + ">");
        Checks.due("its last row", Checks.row(t, 7), "j".repeat(16));
        Checks.due("scrollback", Checks.row(t, -1), "V".repeat(16) + ">");
        t.leaveAlt();
        Checks.due("main screen", Checks.row(t, 7), "D".repeat(16));
    }

    public static void main(String[] args) {
        Checks.sentence("c in 32..126 (printable)", PutTest::printableCodes);
        Checks.sentence("if pending: the flag of row y is set true, LINE FEED, x = 0, pending = false",
            PutTest::wrapOfPendingCursor);
        Checks.sentence("BLANK (32) is the empty cell", PutTest::blankWrapsToo);
        Checks.sentence("cell (y,x) = c", PutTest::noWrapWithoutPending);
        Checks.sentence("if x == W-1 pending = true, else x = x+1", PutTest::lastColumns);
        Checks.sentence("it may SCROLL the region", PutTest::wrapScrollsTheRegion);
        Checks.sentence("on the main screen with top == 0, move row 0 into the scrollback",
            PutTest::wrapFillsTheScrollback);
        Checks.sentence("or leave y unchanged when y == H-1 lies below the region; in that last case the character"
            + " overwrites column 0 of the same row, whose flag has just been set true", PutTest::wrapBelowTheRegion);
        Checks.sentence("13 (CR): x = 0, pending = false.", PutTest::carriageReturn);
        Checks.sentence("10 (LF): LINE FEED, then pending = false; x unchanged.", PutTest::lineFeed);
        Checks.sentence("LINE FEED, then pending = false", PutTest::lineFeedThatMovesNothing);
        Checks.sentence("8 (BS): pending = false, then if x > 0, x = x-1.", PutTest::backspace);
        Checks.sentence("8 (BS): pending = false", PutTest::backspaceFromPending);
        Checks.sentence("x = min(W-1, x - x%8 + 8)", PutTest::tab);
        Checks.sentence("9 (TAB): pending = false", PutTest::tabFromPending);
        Checks.sentence("Any other c (including negative values and values above 126, and control codes other than 8, 9,"
            + " 10, 13): refused, answers false, nothing changes.", PutTest::refusals);
        Checks.sentence("The saved main cursor, the region, the mode, W, H and S do not change.",
            PutTest::settingsStay);
        Checks.sentence("the region, the mode, W, H and S do not change", PutTest::regionStaysInMainMode);
        Checks.sentence("In alternate mode the main buffer is never touched.", PutTest::alternateLeavesMain);
        Checks.sentence("Only the active screen and active cursor are touched (plus the scrollback when the main screen"
            + " scrolls with top == 0).", PutTest::onlyOneCellChanges);
        Checks.sentence("handles one input code, acting on the active screen and active cursor",
            PutTest::greatestSizes);
        Checks.finish();
    }
}
