/** Promise 6: enterAlt and leaveAlt. */
public final class AltScreenTest {
    private static final String ROWS = "ZZZZ>|^AAAA>|BBBB|CCCC";

    private static ReflowTerminal pendingInMain() {
        ReflowTerminal t = Checks.drawn(ROWS, 2, 0, 0);
        Checks.within(t, 1, 2, 0, 0);
        Checks.pendingIn(t, 1);
        return t;
    }

    private static ReflowTerminal pendingInAlternate() {
        ReflowTerminal t = pendingInMain();
        t.enterAlt();
        Checks.type(t, "uvwxyz");
        Checks.within(t, 0, 1, 0, 0);
        Checks.pendingIn(t, 2);
        return t;
    }

    private static ReflowTerminal insideAlternate() {
        ReflowTerminal t = pendingInAlternate();
        t.setCursor(0, 1);
        return t;
    }

    private static void enterRefused() {
        Checks.refused("enterAlt()", AltScreenTest::pendingInAlternate, ReflowTerminal::enterAlt);
        Checks.refused("enterAlt()", AltScreenTest::insideAlternate, ReflowTerminal::enterAlt);
        ReflowTerminal t = new ReflowTerminal(4, 2, 0);
        Checks.due("first enterAlt()", t.enterAlt(), true);
        Checks.due("second enterAlt()", t.enterAlt(), false);
        Checks.due("third enterAlt()", t.enterAlt(), false);
    }

    private static void leaveRefused() {
        Checks.refused("leaveAlt()", AltScreenTest::pendingInMain, ReflowTerminal::leaveAlt);
        ReflowTerminal t = new ReflowTerminal(4, 2, 0);
        Checks.due("leaveAlt() on a new object", t.leaveAlt(), false);
        t.enterAlt();
        Checks.due("leaveAlt()", t.leaveAlt(), true);
        Checks.due("leaveAlt() twice", t.leaveAlt(), false);
    }

    private static void cursorSaved() {
        ReflowTerminal t = pendingInMain();
        t.enterAlt();
        Checks.due("main cursor", Checks.mainCursor(t), "1,3");
        t.leaveAlt();
        Checks.due("pending", Checks.cursor(t), "1,3p");
        t.setCursor(2, 1);
        t.enterAlt();
        Checks.due("main cursor of the second time", Checks.mainCursor(t), "2,1");
        t.leaveAlt();
        Checks.due("not pending", Checks.cursor(t), "2,1");
    }

    private static void enteringClears() {
        ReflowTerminal t = pendingInAlternate();
        Checks.due("before", Checks.picture(t), "ZZZZ>|^uvwx>|yz..|....");
        t.leaveAlt();
        Checks.due("enterAlt()", t.enterAlt(), true);
        Checks.due("cells and flags", Checks.shown(t), "ZZZZ>|^....|....|.... 0,0");
    }

    private static void enteringClearsTheGreatestScreen() {
        ReflowTerminal t = new ReflowTerminal(16, 8, 16);
        t.enterAlt();
        for (int i = 0; i < 10 * 16; i++) {
            t.put('x');
        }
        Checks.due("its last row before", Checks.row(t, 7), "x".repeat(16));
        t.leaveAlt();
        t.enterAlt();
        for (int r = 0; r < 8; r++) {
            Checks.due("row " + r, Checks.row(t, r), ".".repeat(16));
        }
    }

    private static void modeCursorRegion() {
        ReflowTerminal t = pendingInMain();
        Checks.due("enterAlt()", t.enterAlt(), true);
        Checks.due("mode", t.info(ReflowTerminal.INFO_ALT), 1);
        Checks.due("cursor", Checks.cursor(t), "0,0");
        Checks.due("region", Checks.region(t), "0..2");
    }

    private static void enteringKeepsMain() {
        ReflowTerminal t = pendingInMain();
        String lines = Checks.lines(t);
        t.enterAlt();
        Checks.due("lines", Checks.lines(t), lines);
        Checks.due("scrollback", Checks.row(t, -1), "ZZZZ>");
        t.leaveAlt();
        Checks.due("main buffer", Checks.shown(t), ROWS + " 1,3p");
    }

    private static void cursorRestored() {
        ReflowTerminal t = pendingInAlternate();
        Checks.due("leaveAlt()", t.leaveAlt(), true);
        Checks.due("mode", t.info(ReflowTerminal.INFO_ALT), 0);
        Checks.due("cursor", Checks.cursor(t), "1,3p");
        Checks.type(t, "x");
        Checks.due("the wrap goes on", Checks.shown(t), "ZZZZ>|^AAAA>|BBBB>|xCCC 2,1");
    }

    private static void alternatePendingIsNotKept() {
        ReflowTerminal t = Checks.drawn(ROWS, 2, 2, 1);
        t.enterAlt();
        Checks.pendingIn(t, 2);
        t.leaveAlt();
        Checks.due("cursor", Checks.cursor(t), "2,1");
    }

    private static void regionAfterLeaving() {
        ReflowTerminal t = pendingInAlternate();
        Checks.due("region before", Checks.region(t), "0..1");
        t.leaveAlt();
        Checks.due("region after", Checks.region(t), "0..2");
    }

    private static void notReadable() {
        ReflowTerminal t = pendingInAlternate();
        t.leaveAlt();
        Checks.due("only the main screen is read", Checks.picture(t), ROWS);
    }

    private static void everyCallLeavesMain() {
        ReflowTerminal t = pendingInMain();
        String lines = Checks.lines(t);
        t.enterAlt();
        for (int i = 0; i < 40; i++) {
            t.put(33 + i);
            t.put(i % 3 == 0 ? 10 : i % 3 == 1 ? 13 : 9);
            t.eraseInLine(i % 4);
            t.setCursor(i % 4, i % 5);
            t.setScrollRegion(i % 2, i % 3);
            t.enterAlt();
            Checks.due("lines", Checks.lines(t), lines);
            Checks.due("main cursor", Checks.mainCursor(t), "1,3");
            Checks.due("scrollback", t.info(ReflowTerminal.INFO_SCROLLBACK) + Checks.row(t, -1), "1ZZZZ>");
        }
        t.leaveAlt();
        Checks.due("main buffer", Checks.shown(t), ROWS + " 1,3p");
    }

    private static void currentSizes() {
        int[][] sizes = {{16, 8}, {4, 2}, {7, 3}, {16, 2}, {4, 8}};
        ReflowTerminal t = Checks.typed(4, 2, 0, "");
        for (int[] size : sizes) {
            t.enterAlt();
            for (int i = 0; i < 300; i++) {
                t.put('x');
            }
            t.leaveAlt();
            t.resize(size[0], size[1]);
            t.enterAlt();
            String row = ".".repeat(size[0]);
            Checks.due("size " + size[0] + "x" + size[1], Checks.picture(t), "^" + row + ("|" + row).repeat(size[1] - 1));
            t.leaveAlt();
        }
    }

    public static void main(String[] args) {
        Checks.sentence("enterAlt() is refused (false) in alternate mode.", AltScreenTest::enterRefused);
        Checks.sentence("leaveAlt() is refused (false) in main mode.", AltScreenTest::leaveRefused);
        Checks.sentence("saved main cursor = active cursor (row, column, pending)", AltScreenTest::cursorSaved);
        Checks.sentence("every alternate cell BLANK, every alternate flag false", AltScreenTest::enteringClears);
        Checks.sentence("every alternate cell BLANK, every alternate flag false [at the greatest sizes]",
            AltScreenTest::enteringClearsTheGreatestScreen);
        Checks.sentence("mode = alternate; active cursor (0,0) not pending; region 0..H-1. Answers true.",
            AltScreenTest::modeCursorRegion);
        Checks.sentence("The main screen and scrollback do not change.", AltScreenTest::enteringKeepsMain);
        Checks.sentence("Else mode = main; active cursor = saved main cursor (row, column, pending)",
            AltScreenTest::cursorRestored);
        Checks.sentence("active cursor = saved main cursor", AltScreenTest::alternatePendingIsNotKept);
        Checks.sentence("region 0..H-1 [on leaving]", AltScreenTest::regionAfterLeaving);
        Checks.sentence("The alternate screen keeps its cells but is not readable until entered again",
            AltScreenTest::notReadable);
        Checks.sentence("the main buffer is left untouched by every call except resize; until a resize happens, the"
            + " logical lines and the main cursor (row, column, pending) stay as they were on entering",
            AltScreenTest::everyCallLeavesMain);
        Checks.sentence("after enterAlt the alternate screen has the current H rows of the current W cells, all BLANK with"
            + " flags false", AltScreenTest::currentSizes);
        Checks.finish();
    }
}
