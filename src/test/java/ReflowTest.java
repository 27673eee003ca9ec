/** The shared term REFLOW, seen through resize in main mode. */
public final class ReflowTest {
    private static void reflowed(ReflowTerminal t, int width, int height, int lost, String want) {
        String call = "resize(" + width + ", " + height + ")";
        Checks.due(call, t.resize(width, height), lost);
        Checks.due("after " + call, Checks.shown(t), want);
    }

    private static void reflowed(String picture, int capacity, int row, int col, int width, int height, int lost,
            String want) {
        ReflowTerminal t = Checks.drawn(picture, capacity, row, col);
        reflowed(t, width, height, lost, want);
    }

    private static void oldSizes() {
        reflowed("^ABCD>|EF..|....", 4, 1, 3, 8, 3, 0, "^ABCDEF..|........|........ 0,7");
        reflowed("^ABCDEFGH>|IJKLMNOP", 4, 1, 2, 4, 4, 0, "^ABCD>|EFGH>|IJKL>|MNOP 2,2");
        reflowed("AAAA>|^BBBB|CCCC", 1, 0, 1, 8, 2, 0, "^AAAABBBB|CCCC.... 0,5");
    }

    private static void rowsOfALine() {
        reflowed("^ABC.....|........|Z.......", 4, 2, 0, 4, 3, 0, "^ABC.|....|Z... 2,0");
        reflowed("^ABCD....|Z.......", 4, 1, 0, 4, 2, 0, "^ABCD|Z... 1,0");
        reflowed("^ABCDE...|Z.......", 4, 1, 0, 4, 3, 0, "^ABCD>|E...|Z... 2,0");
        reflowed("^ABCDEFGH|Z.......", 4, 1, 0, 4, 3, 0, "^ABCD>|EFGH|Z... 2,0");
        reflowed("^ABCDEFGH>|I.......|Z.......", 4, 2, 0, 4, 4, 0, "^ABCD>|EFGH>|I...|Z... 3,0");
    }

    private static void emptyLineGetsOneRow() {
        reflowed("^....|A...|....", 4, 2, 0, 8, 3, 0, "^........|A.......|........ 2,0");
        reflowed("^....>|....>|....|A...", 4, 3, 0, 4, 4, 0, "^....|A...|....|.... 1,0");
        reflowed("^A...>|....|B...", 4, 2, 1, 4, 3, 0, "^A...|B...|.... 1,1");
    }

    private static void cursorRowsOfALine() {
        reflowed("^ABCD....|........", 4, 0, 3, 4, 2, 0, "^ABCD|.... 0,3");
        reflowed("^ABCD....|........", 4, 0, 4, 4, 2, 0, "^ABCD>|.... 1,0");
        reflowed("^AB......|........", 4, 0, 7, 4, 2, 0, "^AB..>|.... 1,3");
        reflowed("^........|........", 4, 0, 7, 4, 2, 0, "^....>|.... 1,3");
        reflowed("^A...........|............", 4, 0, 11, 4, 3, 0, "^A...>|....>|.... 2,3");
        reflowed("^ABCDEFGH|........", 4, 0, 1, 4, 2, 0, "^ABCD>|EFGH 0,1");
    }

    private static void onlyTheCursorLineGrows() {
        reflowed("^AB......|CD......|........", 4, 1, 6, 4, 3, 0, "^AB..|CD..>|.... 2,2");
        reflowed("^AB..>|....>|....|CD..", 4, 2, 1, 8, 4, 0, "^AB......>|........|CD......|........ 1,1");
    }

    private static void whatRowsHold() {
        reflowed("^ABCDEFGHIJKLM...|................", 4, 0, 0, 5, 3, 0, "^ABCDE>|FGHIJ>|KLM.. 0,0");
        reflowed("^ABCDE>|FGHIJ>|KLM..", 4, 2, 2, 7, 2, 0, "^ABCDEFG>|HIJKLM. 1,5");
        reflowed("^.A..>|...B>|C...", 4, 0, 0, 6, 2, 0, "^.A....>|.BC... 0,0");
    }

    private static void flagsOfRows() {
        reflowed("^ABCDEFGHIJKL|MN..........", 4, 1, 2, 4, 4, 0, "^ABCD>|EFGH>|IJKL|MN.. 3,2");
        reflowed("^AAAA|BBBB|CCCC>", 4, 2, 0, 4, 3, 0, "^AAAA|BBBB|CCCC 2,0");
        reflowed("^AAAA>|BBBB>|CCCC", 4, 2, 0, 12, 2, 0, "^AAAABBBBCCCC|............ 0,8");
    }

    private static void fitsOnTheScreen() {
        reflowed("^A...|B...", 4, 1, 1, 4, 8, 0, "^A...|B...|....|....|....|....|....|.... 1,1");
        reflowed("A...|^B...|C...", 4, 1, 1, 4, 4, 0, "^A...|B...|C...|.... 2,1");
        reflowed("^A...|....|....", 4, 0, 1, 4, 2, 0, "^A...|.... 0,1");
    }

    private static void justFits() {
        reflowed("A...|^B...|C...", 4, 1, 1, 4, 3, 0, "^A...|B...|C... 2,1");
        reflowed("^ABCDEFGH|........", 0, 0, 0, 4, 2, 0, "^ABCD>|EFGH 0,0");
        reflowed("A...|^B...|C...", 4, 0, 0, 4, 3, 0, "^A...|B...|C... 1,0");
    }

    private static void oneRowTooMany() {
        reflowed("^A...|B...|C...", 4, 2, 1, 4, 2, 0, "A...|^B...|C... 1,1");
        reflowed("^A...|B...|C...", 0, 2, 1, 4, 2, 1, "^B...|C... 1,1");
        reflowed("^A...|B...|C...", 4, 0, 1, 4, 2, 1, "^A...|B... 0,1");
    }

    private static void blankRowsBelow() {
        reflowed("^A...|....|....>", 4, 0, 1, 4, 4, 0, "^A...|....|....|.... 0,1");
        reflowed("^AAAA>|BBBB>|CCCC>|DDDD", 4, 3, 3, 16, 4, 0,
            "^AAAABBBBCCCCDDDD|................|................|................ 0,15");
    }

    private static void firstShownRow() {
        String rows = "^A...|B...|C...|D...|E...";
        reflowed(rows, 8, 4, 0, 4, 2, 0, "A...|B...|C...|^D...|E... 1,0");
        reflowed(rows, 8, 3, 0, 4, 2, 0, "A...|B...|C...|^D...|E... 0,0");
        reflowed(rows, 8, 2, 0, 4, 2, 1, "A...|B...|^C...|D... 0,0");
        reflowed(rows, 8, 1, 0, 4, 2, 2, "A...|^B...|C... 0,0");
        reflowed(rows, 8, 0, 0, 4, 2, 3, "^A...|B... 0,0");
    }

    private static void cursorRowAmongTheRows() {
        reflowed("^ABCDEFGHIJKL|Z...........", 8, 0, 5, 4, 2, 1, "ABCD>|^EFGH>|IJKL 0,1");
        reflowed("^ABCDEFGHIJKL|Z...........", 8, 0, 8, 4, 2, 0, "ABCD>|EFGH>|^IJKL|Z... 0,0");
        reflowed("^ABCDEFGHIJKL|Z...........", 8, 0, 3, 4, 2, 2, "^ABCD>|EFGH> 0,3");
        reflowed("^Y...........|ABCDEFGHIJKL", 8, 1, 7, 4, 2, 0, "Y...|ABCD>|^EFGH>|IJKL 0,3");
        reflowed("^Y...........|ABCDEFGHIJKL", 8, 1, 3, 4, 2, 1, "Y...|^ABCD>|EFGH> 0,3");
    }

    private static void scrollbackTakesTheNewest() {
        String rows = "^A...|B...|C...|D...|E...";
        reflowed(rows, 4, 4, 0, 4, 2, 0, "A...|B...|C...|^D...|E... 1,0");
        reflowed(rows, 3, 4, 0, 4, 2, 0, "A...|B...|C...|^D...|E... 1,0");
        reflowed(rows, 2, 4, 0, 4, 2, 1, "B...|C...|^D...|E... 1,0");
        reflowed(rows, 1, 4, 0, 4, 2, 2, "C...|^D...|E... 1,0");
        reflowed(rows, 0, 4, 0, 4, 2, 3, "^D...|E... 1,0");
    }

    private static void lostOnBothSides() {
        String rows = "^A...|B...|C...|D...|E...";
        reflowed(rows, 1, 2, 0, 4, 2, 2, "B...|^C...|D... 0,0");
        reflowed(rows, 0, 2, 0, 4, 2, 3, "^C...|D... 0,0");
        reflowed(rows, 0, 1, 0, 4, 2, 3, "^B...|C... 0,0");
        reflowed("^ABCDEFGH|IJKLMNOP|QRSTUVWX|YZ......", 1, 1, 4, 4, 2, 4, "IJKL>|^MNOP|QRST> 0,0");
    }

    private static void emptyLinesAreNotLost() {
        reflowed("^A...|B...|....|....|....", 0, 1, 0, 4, 2, 0, "^A...|B... 1,0");
        reflowed("^A...|B...|....|....|....", 0, 2, 0, 4, 2, 1, "^B...|.... 1,0");
    }

    private static void cursorColumn() {
        reflowed("^ABCDEFGHIJKL|............", 8, 0, 3, 4, 4, 0, "^ABCD>|EFGH>|IJKL|.... 0,3");
        reflowed("^ABCDEFGHIJKL|............", 8, 0, 4, 4, 4, 0, "^ABCD>|EFGH>|IJKL|.... 1,0");
        reflowed("^ABCDEFGHIJKL|............", 8, 0, 11, 4, 4, 0, "^ABCD>|EFGH>|IJKL|.... 2,3");
        reflowed("^ABCD>|EFGH>|IJKL|....", 8, 2, 0, 12, 2, 0, "^ABCDEFGHIJKL|............ 0,8");
        reflowed("^ABCD>|EFGH>|IJKL|....", 8, 2, 0, 8, 2, 0, "^ABCDEFGH>|IJKL.... 1,0");
    }

    private static void pendingGoes() {
        ReflowTerminal t = Checks.typed(4, 2, 2, "ABCD");
        reflowed(t, 8, 2, 0, "^ABCD....|........ 0,3");
        Checks.type(t, "X");
        Checks.due("the last character is overwritten", Checks.lines(t), "ABCX@0,4");
        ReflowTerminal narrow = Checks.typed(8, 2, 2, "ABCDEFGH");
        reflowed(narrow, 4, 2, 0, "^ABCD>|EFGH 1,3");
    }

    private static void greatestReflow() {
        ReflowTerminal t = new ReflowTerminal(16, 8, 16);
        for (int i = 0; i < 24 * 16; i++) {
            t.put('A' + i % 26);
        }
        Checks.due("resize(4, 2): 96 rows, 18 stay", t.resize(4, 2), 96 - 18);
        Checks.due("what is left", t.lineLength(0), 72);
        Checks.due("its first character", t.lineChar(0, 0), 'A' + 312 % 26);
        Checks.due("its last character", t.lineChar(0, 71), 'A' + 383 % 26);
        Checks.due("cursor", Checks.cursor(t), "1,3");
        Checks.due("resize(16, 8)", t.resize(16, 8), 0);
        Checks.due("back at full width", Checks.row(t, 0), "ABCDEFGHIJKLMNOP>");
        Checks.due("cursor at full width", Checks.cursor(t), "4,7");
    }

    private static void fullBufferAtTheLeastWidth() {
        ReflowTerminal t = new ReflowTerminal(4, 8, 16);
        for (int i = 0; i < 24 * 4; i++) {
            t.put('A' + i % 26);
        }
        Checks.due("scrollback", t.info(ReflowTerminal.INFO_SCROLLBACK), 16);
        Checks.due("resize(16, 8)", t.resize(16, 8), 0);
        Checks.due("six rows", Checks.row(t, 5), "CDEFGHIJKLMNOPQR");
        Checks.due("scrollback is empty", t.info(ReflowTerminal.INFO_SCROLLBACK), 0);
        Checks.due("resize(4, 8)", t.resize(4, 8), 0);
        Checks.due("scrollback is full again", t.info(ReflowTerminal.INFO_SCROLLBACK), 16);
        Checks.due("its oldest row", Checks.row(t, -16), "ABCD>");
    }

    public static void main(String[] args) {
        Checks.sentence("Take the logical lines, the cursor line and k as above (old W and H).", ReflowTest::oldSizes);
        Checks.sentence("A line of length len gets r = max(1, (len+W2-1)/W2) rows", ReflowTest::rowsOfALine);
        Checks.sentence("A line of length len gets r = max(1, (len+W2-1)/W2) rows [length 0]",
            ReflowTest::emptyLineGetsOneRow);
        Checks.sentence("the cursor line gets r = max(that, k/W2 + 1)", ReflowTest::cursorRowsOfALine);
        Checks.sentence("the cursor line gets r = max(that, k/W2 + 1) [and no other line]",
            ReflowTest::onlyTheCursorLineGrows);
        Checks.sentence("Row j of a line holds text characters j*W2..j*W2+W2-1 at columns 0..W2-1, BLANK past the end of"
            + " the text.", ReflowTest::whatRowsHold);
        Checks.sentence("Every row of a line but its last has flag true; its last row has flag false.",
            ReflowTest::flagsOfRows);
        Checks.sentence("n = 0, first = 0, lost = 0", ReflowTest::fitsOnTheScreen);
        Checks.sentence("If T <= H2: main screen rows 0..T-1 = R [T == H2]", ReflowTest::justFits);
        Checks.sentence("Else: first = min(T-H2, p) [T == H2+1]", ReflowTest::oneRowTooMany);
        Checks.sentence("rows T..H2-1 all BLANK with flag false", ReflowTest::blankRowsBelow);
        Checks.sentence("first = min(T-H2, p); main screen rows 0..H2-1 = R[first..first+H2-1]",
            ReflowTest::firstShownRow);
        Checks.sentence("p = the index in R of row k/W2 of the cursor line", ReflowTest::cursorRowAmongTheRows);
        Checks.sentence("the scrollback becomes R[max(0,first-S)..first-1] (oldest first, so n = min(first, S))",
            ReflowTest::scrollbackTakesTheNewest);
        Checks.sentence("lost = max(0, first-S) + (T - first - H2)", ReflowTest::lostOnBothSides);
        Checks.sentence("R = the rows of all logical lines in order [and of no others]",
            ReflowTest::emptyLinesAreNotLost);
        Checks.sentence("The main cursor becomes row p - first, column k % W2", ReflowTest::cursorColumn);
        Checks.sentence("column k % W2, not pending", ReflowTest::pendingGoes);
        Checks.sentence("T = their number [the greatest]", ReflowTest::greatestReflow);
        Checks.sentence("so n = min(first, S) [the greatest, and back]", ReflowTest::fullBufferAtTheLeastWidth);
        Checks.finish();
    }
}
