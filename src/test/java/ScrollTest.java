/** The shared term SCROLL, made by LF at the bottom of the region. */
public final class ScrollTest {
    private static ReflowTerminal scrolled(String picture, int capacity, int top, int bottom) {
        ReflowTerminal t = Checks.drawn(picture, capacity, 0, 0);
        Checks.within(t, top, bottom, bottom, 2);
        Checks.type(t, "\n");
        return t;
    }

    private static void after(String picture, int capacity, int top, int bottom, String want) {
        ReflowTerminal t = scrolled(picture, capacity, top, bottom);
        Checks.due("rows " + top + ".." + bottom + " of " + picture, Checks.shown(t), want + " " + bottom + ",2");
    }

    private static void rowLeaves() {
        after("^AAAA|BBBB|CCCC", 2, 0, 2, "AAAA|^BBBB|CCCC|....");
        after("^AAAA>|BBBB|CCCC", 2, 0, 2, "AAAA>|^BBBB|CCCC|....");
        after("^....|BBBB|CCCC", 2, 0, 2, "....|^BBBB|CCCC|....");
        after("^ABCDEFGHIJKLMNOP>|BBBBBBBBBBBBBBBB", 1, 0, 1, "ABCDEFGHIJKLMNOP>|^BBBBBBBBBBBBBBBB|................");
    }

    private static void discarded() {
        after("^AAAA>|BBBB|CCCC", 0, 0, 2, "^BBBB|CCCC|....");
        ReflowTerminal t = scrolled("^AAAA>|BBBB", 0, 0, 1);
        Checks.due("scrollback", t.info(ReflowTerminal.INFO_SCROLLBACK), 0);
        Checks.due("cell(-1, 0)", t.cell(-1, 0), -1);
        Checks.due("wrapped(-1)", t.wrapped(-1), false);
    }

    private static void oldestRemoved() {
        after("AAAA|BBBB>|^CCCC|DDDD", 2, 0, 1, "BBBB>|CCCC|^DDDD|....");
        after("AAAA>|^BBBB|CCCC", 1, 0, 1, "BBBB|^CCCC|....");
        after("AAAA|BBBB|CCCC|^DDDD>|EEEE|FFFF", 3, 0, 1, "BBBB|CCCC|DDDD>|^EEEE|....|FFFF");
    }

    private static void noneRemovedWhileThereIsRoom() {
        after("AAAA|BBBB|^CCCC|DDDD", 3, 0, 1, "AAAA|BBBB|CCCC|^DDDD|....");
        after("AAAA>|^BBBB>|CCCC", 2, 0, 1, "AAAA>|BBBB>|^CCCC|....");
    }

    private static void greatestScrollback() {
        ReflowTerminal t = new ReflowTerminal(4, 8, 16);
        for (int i = 0; i < 26; i++) {
            Checks.type(t, (char) ('A' + i) + "\r\n");
            int left = Math.min(16, Math.max(0, i + 2 - 8));
            Checks.due("scrollback after " + i, t.info(ReflowTerminal.INFO_SCROLLBACK), left);
        }
        Checks.due("oldest row", Checks.row(t, -16), "D...");
        Checks.due("newest row", Checks.row(t, -1), "S...");
        Checks.due("first row of the screen", Checks.row(t, 0), "T...");
        Checks.due("row -17", t.cell(-17, 0), -1);
    }

    private static void cellsAndFlagsMove() {
        after("^AAAA|BBBB>|CCCC|DDDD>|EEEE", 2, 1, 3, "^AAAA|CCCC|DDDD>|....|EEEE");
        after("^AAAA|BBBB|CCCC>|DDDD|EEEE>", 2, 1, 4, "^AAAA|CCCC>|DDDD|EEEE>|....");
        after("^AAAA|BBBB>|CCCC|DDDD>", 0, 0, 3, "^BBBB>|CCCC|DDDD>|....");
        after("^AAAA|BBBB|CCCC|DDDD|EEEE|FFFF|GGGG|HHHH", 0, 0, 7, "^BBBB|CCCC|DDDD|EEEE|FFFF|GGGG|HHHH|....");
    }

    private static void bottomBecomesBlank() {
        after("^AAAA|BBBB|CCCC>", 1, 0, 2, "AAAA|^BBBB|CCCC>|....");
        after("^AAAA|BBBB|CCCC>|DDDD", 1, 1, 2, "^AAAA|CCCC>|....|DDDD");
        after("^AAAA|BBBB>|CCCC", 1, 0, 1, "AAAA|^BBBB>|....|CCCC");
    }

    private static void smallestRegions() {
        after("^AAAA|BBBB", 0, 0, 1, "^BBBB|....");
        after("^AAAA|BBBB|CCCC", 0, 1, 2, "^AAAA|CCCC|....");
        after("^AAAA|BBBB|CCCC|DDDD|EEEE|FFFF|GGGG|HHHH", 0, 6, 7, "^AAAA|BBBB|CCCC|DDDD|EEEE|FFFF|HHHH|....");
    }

    private static void outsideStays() {
        after("^AAAA>|BBBB|CCCC|DDDD>", 4, 1, 2, "^AAAA>|CCCC|....|DDDD>");
        after("^AAAA>|BBBB>|CCCC|DDDD", 4, 2, 3, "^AAAA>|BBBB>|DDDD|....");
        after("^AAAA|BBBB|CCCC>|DDDD>", 4, 0, 1, "AAAA|^BBBB|....|CCCC>|DDDD>");
        after("^AAAA|BBBB|CCCC>|DDDD>", 0, 0, 1, "^BBBB|....|CCCC>|DDDD>");
        after("ZZZZ|^AAAA|BBBB|CCCC>|DDDD>", 1, 0, 1, "AAAA|^BBBB|....|CCCC>|DDDD>");
        after("ZZZZ|^AAAA|BBBB|CCCC>|DDDD>", 2, 0, 2, "ZZZZ|AAAA|^BBBB|CCCC>|....|DDDD>");
    }

    private static void alternateKeepsItsRows(int capacity) {
        ReflowTerminal t = Checks.drawn("ZZZZ>|^AAAA|BBBB|CCCC", capacity, 1, 1);
        t.enterAlt();
        Checks.type(t, "wwwwxxxxyyyy\n");
        Checks.due("top == 0", Checks.picture(t), "ZZZZ>|^xxxx>|yyyy|....");
        Checks.within(t, 0, 1, 1, 0);
        Checks.type(t, "\n");
        Checks.due("rows 0..1", Checks.picture(t), "ZZZZ>|^yyyy|....|....");
        Checks.within(t, 1, 2, 1, 0);
        Checks.type(t, "uuuuvvvv\n");
        Checks.due("rows 1..2", Checks.picture(t), "ZZZZ>|^yyyy|vvvv|....");
        t.leaveAlt();
        Checks.due("main buffer", Checks.shown(t), "ZZZZ>|^AAAA|BBBB|CCCC 1,1");
    }

    private static void alternateScreen() {
        alternateKeepsItsRows(1);
        alternateKeepsItsRows(2);
        ReflowTerminal none = new ReflowTerminal(4, 2, 16);
        none.enterAlt();
        Checks.type(none, "A\n\n\n\n");
        Checks.due("scrollback that was empty", none.info(ReflowTerminal.INFO_SCROLLBACK), 0);
    }

    private static void topAboveZero() {
        after("^AAAA|BBBB|CCCC", 2, 1, 2, "^AAAA|CCCC|....");
        after("ZZZZ>|^AAAA|BBBB|CCCC", 2, 1, 2, "ZZZZ>|^AAAA|CCCC|....");
        after("YYYY|ZZZZ>|^AAAA|BBBB|CCCC", 2, 1, 2, "YYYY|ZZZZ>|^AAAA|CCCC|....");
    }

    public static void main(String[] args) {
        Checks.sentence("if the main screen is active and top == 0, row 0 (its cells and flag) leaves for the scrollback",
            ScrollTest::rowLeaves);
        Checks.sentence("if S == 0 it is discarded", ScrollTest::discarded);
        Checks.sentence("if n == S the oldest scrollback row is removed first, then the row is added as the newest",
            ScrollTest::oldestRemoved);
        Checks.sentence("the row is added as the newest", ScrollTest::noneRemovedWhileThereIsRoom);
        Checks.sentence("0 <= n <= S, ordered oldest to newest", ScrollTest::greatestScrollback);
        Checks.sentence("for r = top..bottom-1 row r takes the cells and flag of row r+1",
            ScrollTest::cellsAndFlagsMove);
        Checks.sentence("row bottom becomes all BLANK with flag false", ScrollTest::bottomBecomesBlank);
        Checks.sentence("rows top..bottom with 0 <= top < bottom <= H-1", ScrollTest::smallestRegions);
        Checks.sentence("Rows outside top..bottom do not change.", ScrollTest::outsideStays);
        Checks.sentence("When the alternate screen is active", ScrollTest::alternateScreen);
        Checks.sentence("or top > 0, nothing enters the scrollback and n does not change", ScrollTest::topAboveZero);
        Checks.finish();
    }
}
