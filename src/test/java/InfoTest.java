/** Promise 10: info. */
public final class InfoTest {
    private static ReflowTerminal inMain() {
        ReflowTerminal t = Checks.typed(5, 3, 4, "A\r\nB\r\nCDEFGHI\r\nJKLMN");
        Checks.due("picture", Checks.shown(t), "A....|B....|^CDEFG>|HI...|JKLMN 2,4p");
        return t;
    }

    private static ReflowTerminal inAlternate() {
        ReflowTerminal t = inMain();
        t.enterAlt();
        return t;
    }

    private static void sizes() {
        ReflowTerminal t = inMain();
        Checks.due("INFO_WIDTH", t.info(0), 5);
        Checks.due("INFO_HEIGHT", t.info(1), 3);
        Checks.due("INFO_CAPACITY", t.info(2), 4);
        t.resize(Integer.MAX_VALUE, Integer.MAX_VALUE);
        Checks.due("INFO_WIDTH after resize", t.info(0), 16);
        Checks.due("INFO_HEIGHT after resize", t.info(1), 8);
        Checks.due("INFO_CAPACITY after resize", t.info(2), 4);
        t.enterAlt();
        t.resize(Integer.MIN_VALUE, Integer.MIN_VALUE);
        Checks.due("INFO_WIDTH in alternate mode", t.info(0), 4);
        Checks.due("INFO_HEIGHT in alternate mode", t.info(1), 2);
        Checks.due("INFO_CAPACITY in alternate mode", t.info(2), 4);
    }

    private static void scrollback() {
        ReflowTerminal t = new ReflowTerminal(4, 2, 2);
        int[] due = {0, 0, 1, 2, 2, 2};
        for (int i = 0; i < due.length; i++) {
            Checks.due("INFO_SCROLLBACK after " + i + " LF", t.info(3), due[i]);
            Checks.type(t, "\n");
        }
        t.enterAlt();
        Checks.type(t, "\n\n\n");
        Checks.due("INFO_SCROLLBACK in alternate mode", t.info(3), 2);
        Checks.due("INFO_SCROLLBACK without capacity", Checks.typed(4, 2, 0, "\n\n\n").info(3), 0);
    }

    private static void mode() {
        ReflowTerminal t = inMain();
        Checks.due("main mode", t.info(4), 0);
        t.enterAlt();
        Checks.due("alternate mode", t.info(4), 1);
        t.leaveAlt();
        Checks.due("main mode again", t.info(4), 0);
    }

    private static void region() {
        ReflowTerminal t = inMain();
        Checks.due("whole screen", t.info(5) + ".." + t.info(6), "0..2");
        t.setScrollRegion(1, 2);
        Checks.due("rows 1..2", t.info(5) + ".." + t.info(6), "1..2");
        t.setScrollRegion(0, 1);
        Checks.due("rows 0..1", t.info(5) + ".." + t.info(6), "0..1");
    }

    private static void pending() {
        ReflowTerminal t = inMain();
        Checks.due("pending", t.info(7), 1);
        t.enterAlt();
        Checks.due("the alternate cursor is not", t.info(7), 0);
        Checks.pendingIn(t, 2);
        Checks.due("now it is", t.info(7), 1);
        t.leaveAlt();
        Checks.type(t, "\r");
        Checks.due("after CR", t.info(7), 0);
    }

    private static void lines() {
        ReflowTerminal t = inMain();
        Checks.due("in main mode", t.info(8), 4);
        Checks.due("of a new object", new ReflowTerminal(4, 2, 0).info(8), 1);
        t.enterAlt();
        Checks.type(t, "u\nv\nw\nx\ny");
        Checks.due("in alternate mode", t.info(8), 4);
    }

    private static void cursorLine() {
        ReflowTerminal t = inMain();
        Checks.due("last line", t.info(9), 3);
        t.setCursor(1, 3);
        Checks.due("second row of a line", t.info(9), 2);
        t.setCursor(0, 0);
        Checks.due("first row of the screen", t.info(9), 2);
        t.setCursor(2, 0);
        t.enterAlt();
        Checks.type(t, "u");
        Checks.due("in alternate mode", t.info(9), 3);
    }

    private static void cursorOffset() {
        ReflowTerminal t = inMain();
        Checks.due("of a pending cursor", t.info(10), 4);
        t.setCursor(0, 0);
        Checks.due("first place of a line", t.info(10), 0);
        t.setCursor(1, 0);
        Checks.due("first place of its second row", t.info(10), 5);
        t.setCursor(1, 4);
        Checks.due("behind its text", t.info(10), 9);
        t.enterAlt();
        Checks.type(t, "u");
        Checks.due("in alternate mode", t.info(10), 9);
    }

    private static void mainCursor() {
        ReflowTerminal t = inMain();
        Checks.due("in main mode", t.info(11) + "," + t.info(12), "2,4");
        t.setCursor(0, 1);
        Checks.due("after setCursor", t.info(11) + "," + t.info(12), "0,1");
        t.setCursor(2, 3);
        t.enterAlt();
        t.setCursor(1, 0);
        Checks.due("in alternate mode", t.info(11) + "," + t.info(12), "2,3");
    }

    private static void otherKinds() {
        for (int kind : new int[] {-1, 13, -2, 14, 16, 32, 256, 268, -256, Integer.MIN_VALUE, Integer.MAX_VALUE}) {
            Checks.due("info(" + kind + ")", inMain().info(kind), -1);
            Checks.due("info(" + kind + ") in alternate mode", inAlternate().info(kind), -1);
        }
    }

    private static void nothingChanges() {
        for (int number = -2; number < 16; number++) {
            int kind = number;
            Checks.changesNothing("info(" + kind + ")", InfoTest::inMain, t -> t.info(kind));
            Checks.changesNothing("info(" + kind + ")", InfoTest::inAlternate, t -> t.info(kind));
        }
    }

    public static void main(String[] args) {
        Checks.sentence("INFO_WIDTH: W. INFO_HEIGHT: H. INFO_CAPACITY: S.", InfoTest::sizes);
        Checks.sentence("INFO_SCROLLBACK: n.", InfoTest::scrollback);
        Checks.sentence("INFO_ALT: 1 in alternate mode, else 0.", InfoTest::mode);
        Checks.sentence("INFO_REGION_TOP: top. INFO_REGION_BOTTOM: bottom.", InfoTest::region);
        Checks.sentence("INFO_PENDING: 1 if the active cursor is pending, else 0.", InfoTest::pending);
        Checks.sentence("INFO_LINES: number of logical lines (of the main buffer, in either mode).", InfoTest::lines);
        Checks.sentence("INFO_CURSOR_LINE: number of the cursor line among the logical lines.", InfoTest::cursorLine);
        Checks.sentence("INFO_CURSOR_OFFSET: k.", InfoTest::cursorOffset);
        Checks.sentence("INFO_MAIN_ROW, INFO_MAIN_COL: row and column of the main cursor.", InfoTest::mainCursor);
        Checks.sentence("Any other kind: -1.", InfoTest::otherKinds);
        Checks.sentence("without changing anything", InfoTest::nothingChanges);
        Checks.finish();
    }
}
