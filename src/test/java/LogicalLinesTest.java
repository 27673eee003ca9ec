/** The shared term LOGICAL LINES. */
public final class LogicalLinesTest {
    private static void lines(String picture, int row, int col, String want) {
        ReflowTerminal t = Checks.drawn(picture, 16, row, col);
        Checks.due("lines of " + picture + " with the cursor at " + row + "," + col, Checks.lines(t), want);
    }

    private static void eitherMode() {
        ReflowTerminal t = Checks.drawn("AAAA>|^BBBB|CC..|....", 2, 1, 1);
        Checks.due("main mode", Checks.lines(t), "AAAABBBB|CC@1,1");
        t.enterAlt();
        Checks.due("alternate mode", Checks.lines(t), "AAAABBBB|CC@1,1");
        Checks.type(t, "uvwxyz12345678");
        Checks.due("alternate mode with text", Checks.lines(t), "AAAABBBB|CC@1,1");
    }

    private static void startsAtIndexZero() {
        ReflowTerminal t = Checks.typed(4, 2, 1, "ABCDEFGHIJKLM\r\nN");
        Checks.due("the row before is gone", Checks.picture(t), "IJKL>|^M...|N...");
        Checks.due("lines", Checks.lines(t), "IJKLM|N@1,1");
        ReflowTerminal none = Checks.typed(4, 2, 0, "ABCDEFGHI");
        Checks.due("without scrollback", Checks.lines(none), "EFGHI@0,5");
    }

    private static void startsBehindFalse() {
        lines("^AAAA|BBBB|CCCC", 2, 0, "AAAA|BBBB|CCCC@2,0");
        lines("^AAAA>|BBBB|CCCC>|DDDD", 3, 0, "AAAABBBB|CCCCDDDD@1,4");
        lines("^AAAA>|BBBB>|CCCC", 0, 0, "AAAABBBBCCCC@0,0");
    }

    private static void scrollbackThenScreen() {
        lines("AAAA|BBBB>|^CCCC|DDDD", 1, 0, "AAAA|BBBBCCCC|DDDD@2,0");
        lines("AAAA>|BBBB|^CCCC>|DDDD", 1, 0, "AAAABBBB|CCCCDDDD@1,4");
        lines("AAAA>|BBBB>|^CCCC>|DDDD", 0, 1, "AAAABBBBCCCCDDDD@0,9");
        lines("....|....|^AAAA|BBBB", 0, 0, "||AAAA|BBBB@2,0");
    }

    private static void lastFlagIsNotAsked() {
        lines("^AAAA|BBBB|CCCC>", 2, 1, "AAAA|BBBB|CCCC@2,1");
        lines("ZZZZ|^AAAA|BBBB>|CCCC>", 0, 0, "ZZZZ|AAAA|BBBBCCCC@1,0");
        lines("^AAAA|....|....>", 0, 0, "AAAA@0,0");
        lines("^AAAA|....|....>", 2, 0, "AAAA||@2,0");
    }

    private static void lastFlagAfterACut() {
        ReflowTerminal t = Checks.drawn("^ABCDEFGH>|IJKLMNOP|QRSTUVWX|YZ......", 4, 0, 0);
        Checks.due("resize(4, 2)", t.resize(4, 2), 5);
        Checks.due("the line is cut below the screen", Checks.picture(t), "^ABCD>|EFGH>");
        Checks.due("lines", Checks.lines(t), "ABCDEFGH@0,0");
        Checks.due("resize(16, 2)", t.resize(16, 2), 0);
        Checks.due("what is cut stays away", Checks.lines(t), "ABCDEFGH@0,0");
    }

    private static void greatestBuffer() {
        ReflowTerminal t = new ReflowTerminal(16, 8, 16);
        for (int i = 0; i < 24; i++) {
            Checks.type(t, (i == 0 ? "" : "\r\n") + (char) ('A' + i));
        }
        Checks.due("lines", t.info(ReflowTerminal.INFO_LINES), 24);
        Checks.due("first", t.lineChar(0, 0), (int) 'A');
        Checks.due("last", t.lineChar(23, 0), (int) 'X');
        Checks.due("cursor line", t.info(ReflowTerminal.INFO_CURSOR_LINE), 23);
    }

    private static void longestLine() {
        ReflowTerminal t = new ReflowTerminal(16, 8, 16);
        for (int i = 0; i < 25 * 16; i++) {
            t.put(33 + i % 90);
        }
        Checks.due("lines", t.info(ReflowTerminal.INFO_LINES), 1);
        Checks.due("length", t.lineLength(0), 384);
        Checks.due("first character", t.lineChar(0, 0), 33 + 16);
        Checks.due("last character", t.lineChar(0, 383), 33 + 399 % 90);
        Checks.due("offset of a pending cursor", t.info(ReflowTerminal.INFO_CURSOR_OFFSET), 383);
    }

    private static void blanksAtTheEnd() {
        lines("^AB..|.A.B|A...|...B", 3, 0, "AB|.A.B|A|...B@3,0");
        lines("^A...>|B...|CCCC", 2, 0, "A...B|CCCC@1,0");
        lines("^A...>|....|CCCC", 2, 0, "A|CCCC@1,0");
        lines("^A...>|....>|...B|CCCC", 3, 0, "A..........B|CCCC@1,0");
        lines("^....>|...A|CCCC", 2, 0, ".......A|CCCC@1,0");
        ReflowTerminal t = Checks.typed(4, 2, 0, "A  ");
        Checks.due("blanks that were printed", t.lineLength(0), 1);
    }

    private static void lengthZero() {
        lines("^....>|....>|....|AAAA", 3, 0, "|AAAA@1,0");
        lines("^....|AAAA", 1, 0, "|AAAA@1,0");
        ReflowTerminal t = Checks.drawn("^....|AAAA", 0, 1, 0);
        Checks.due("length", t.lineLength(0), 0);
        Checks.due("no first character", t.lineChar(0, 0), -1);
    }

    private static void cursorLineAndOffset() {
        lines("AAAA>|^BBBB>|CC..", 1, 1, "AAAABBBBCC@0,9");
        lines("AAAA|^BBBB>|CC..", 1, 1, "AAAA|BBBBCC@1,5");
        lines("AAAA|BBBB>|^CCCC|DDDD", 0, 3, "AAAA|BBBBCCCC|DDDD@1,7");
        lines("^AAAA>|BBBB|CCCC", 0, 3, "AAAABBBB|CCCC@0,3");
        lines("^A...|B...|CCCC", 1, 3, "A|B|CCCC@1,3");
        lines("^....|....", 1, 2, "|@1,2");
    }

    private static void offsetWithWidth() {
        lines("^AAAAAAA>|BBBBBBB>|CCCCCCC", 2, 6, "AAAAAAABBBBBBBCCCCCCC@0,20");
        lines("^AAAAAAAAAAAAAAAA>|BBBBBBBBBBBBBBBB", 1, 0, "AAAAAAAAAAAAAAAABBBBBBBBBBBBBBBB@0,16");
    }

    private static void offsetOfPendingCursor() {
        ReflowTerminal t = Checks.typed(4, 2, 0, "ABCDEFGH");
        Checks.due("pending adds nothing", Checks.lines(t), "ABCDEFGH@0,7");
    }

    private static void mainCursorInAlternateMode() {
        ReflowTerminal t = Checks.drawn("AAAA|^BBBB|CCCC>|DDDD", 1, 2, 1);
        t.enterAlt();
        t.setCursor(0, 3);
        Checks.due("the saved cursor counts", Checks.lines(t), "AAAA|BBBB|CCCCDDDD@2,5");
    }

    private static void emptyLinesAtTheEnd() {
        lines("^A...|....|B...|....|....", 0, 0, "A||B@0,0");
        lines("^A...|....|....|....|....", 0, 3, "A@0,3");
        lines("^A...|....|....|....|...B", 0, 0, "A||||...B@0,0");
        lines("^....|....|....|....|....", 0, 0, "@0,0");
        lines("^A...............|...............B", 0, 0, "A|...............B@0,0");
    }

    private static void notBeforeTheCursor() {
        lines("^A...|....|....|....|....", 2, 1, "A||@2,1");
        lines("^A...|....|....|....|....", 4, 0, "A||||@4,0");
        lines("^A...|....|....|B...|....", 1, 0, "A|||B@1,0");
        lines("^A...|....|B...|....", 3, 3, "A||B|@3,3");
    }

    private static void emptyLineOfManyRows() {
        lines("^A...|....>|....|....", 0, 0, "A@0,0");
        lines("^A...|....>|....|....", 1, 0, "A|@1,0");
        lines("^A...|....>|....|....", 2, 1, "A|@1,5");
        lines("^A...|....>|....|....", 3, 1, "A||@2,1");
        lines("^A...|....>|...B|....", 0, 1, "A|.......B@0,1");
    }

    private static void cursorInBlankRowsOfALine() {
        lines("^ABCD>|....>|....|....", 2, 2, "ABCD@0,10");
        lines("^ABCD>|....>|....|....", 0, 2, "ABCD@0,2");
        lines("^ABCD>|....>|....|....", 3, 2, "ABCD|@1,2");
    }

    private static void neverNone() {
        for (int row = 0; row < 8; row++) {
            ReflowTerminal t = new ReflowTerminal(4, 8, 3);
            t.setCursor(row, 2);
            Checks.due("lines of a blank screen, row " + row, t.info(ReflowTerminal.INFO_LINES), row + 1);
            Checks.due("cursor line, row " + row, t.info(ReflowTerminal.INFO_CURSOR_LINE), row);
            Checks.due("its length", t.lineLength(row), 0);
        }
    }

    public static void main(String[] args) {
        Checks.sentence("of the main buffer, in either mode", LogicalLinesTest::eitherMode);
        Checks.sentence("A line starts at index 0", LogicalLinesTest::startsAtIndexZero);
        Checks.sentence("and at every index i > 0 whose row i-1 has flag false, and runs up to the next start",
            LogicalLinesTest::startsBehindFalse);
        Checks.sentence("Let Q be the scrollback rows, oldest first, followed by main screen rows 0..H-1",
            LogicalLinesTest::scrollbackThenScreen);
        Checks.sentence("the flag of the last row of Q is never consulted", LogicalLinesTest::lastFlagIsNotAsked);
        Checks.sentence("the flag of the last row of Q is never consulted [after a resize]",
            LogicalLinesTest::lastFlagAfterACut);
        Checks.sentence("indices 0..n+H-1", LogicalLinesTest::greatestBuffer);
        Checks.sentence("the cells of its rows in order", LogicalLinesTest::longestLine);
        Checks.sentence("with all BLANK cells at the end removed", LogicalLinesTest::blanksAtTheEnd);
        Checks.sentence("length may be 0", LogicalLinesTest::lengthZero);
        Checks.sentence("The cursor line is the line holding index n + (main cursor row)",
            LogicalLinesTest::cursorLineAndOffset);
        Checks.sentence("(that index - index of the cursor line's first row) * W", LogicalLinesTest::offsetWithWidth);
        Checks.sentence("+ (main cursor column)", LogicalLinesTest::offsetOfPendingCursor);
        Checks.sentence("the saved main cursor in alternate mode", LogicalLinesTest::mainCursorInAlternateMode);
        Checks.sentence("the longest run of lines at the end of the list that all come after the cursor line and all have"
            + " length 0 is removed", LogicalLinesTest::emptyLinesAtTheEnd);
        Checks.sentence("that all come after the cursor line", LogicalLinesTest::notBeforeTheCursor);
        Checks.sentence("and all have length 0", LogicalLinesTest::emptyLineOfManyRows);
        Checks.sentence("What remains, numbered from 0 in order, are the logical lines.",
            LogicalLinesTest::cursorInBlankRowsOfALine);
        Checks.sentence("The cursor line is always among them, so there is always at least one logical line.",
            LogicalLinesTest::neverNone);
        Checks.finish();
    }
}
