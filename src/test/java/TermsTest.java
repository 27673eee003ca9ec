import java.util.function.Consumer;

/** The words of "What it is" that name a boundary and that every promise uses. */
public final class TermsTest {
    private static ReflowTerminal pendingInMain() {
        ReflowTerminal t = Checks.drawn("AAAA>|^BBBB>|CCCC|DDDD>", 2, 0, 0);
        Checks.within(t, 0, 1, 0, 0);
        Checks.pendingIn(t, 2);
        return t;
    }

    private static ReflowTerminal pendingInAlternate() {
        ReflowTerminal t = pendingInMain();
        t.enterAlt();
        Checks.type(t, "uvwxyz12");
        Checks.within(t, 1, 2, 0, 0);
        Checks.pendingIn(t, 0);
        return t;
    }

    private static boolean anyRefused(ReflowTerminal t) {
        boolean taken = false;
        for (int wrong : new int[] {Integer.MIN_VALUE, -1, 127, Integer.MAX_VALUE}) {
            taken |= t.put(wrong);
            taken |= t.eraseInLine(wrong);
            taken |= t.setScrollRegion(wrong, 2);
            taken |= t.setScrollRegion(0, wrong);
            taken |= t.setCursor(wrong, 0);
            taken |= t.setCursor(0, wrong);
        }
        return taken | (t.info(ReflowTerminal.INFO_ALT) == 1 ? t.enterAlt() : t.leaveAlt());
    }

    private static void refusals() {
        Checks.refused("every refused call in main mode", TermsTest::pendingInMain, TermsTest::anyRefused);
        Checks.refused("every refused call in alternate mode", TermsTest::pendingInAlternate, TermsTest::anyRefused);
        Checks.refused("every refused call on a new object", () -> new ReflowTerminal(4, 3, 2), TermsTest::anyRefused);
    }

    private static void alternateHasNoScrollback() {
        ReflowTerminal t = new ReflowTerminal(4, 2, 16);
        t.enterAlt();
        Checks.type(t, "ABCDEFGHIJKLMNOP");
        Checks.due("rows that left the screen", Checks.picture(t), "^IJKL>|MNOP");
        Checks.due("cell(-1, 0)", t.cell(-1, 0), -1);
        Checks.due("H rows", t.cell(2, 0), -1);
    }

    private static void activeScreen() {
        ReflowTerminal t = Checks.typed(4, 2, 0, "A");
        t.enterAlt();
        Checks.type(t, "B");
        Checks.due("in alternate mode", Checks.shown(t), "^B...|.... 0,1");
        t.leaveAlt();
        Checks.type(t, "C");
        Checks.due("in main mode", Checks.shown(t), "^AC..|.... 0,2");
    }

    private static void mainCursor() {
        ReflowTerminal t = Checks.typed(4, 3, 0, "AB");
        Checks.due("in main mode", Checks.mainCursor(t), "0,2");
        t.enterAlt();
        t.setCursor(2, 3);
        Checks.due("in alternate mode", Checks.mainCursor(t), "0,2");
        t.leaveAlt();
        t.setCursor(2, 3);
        Checks.due("in main mode again", Checks.mainCursor(t), "2,3");
    }

    private static void pendingFlags() {
        ReflowTerminal t = Checks.typed(4, 3, 0, "ABCD");
        t.enterAlt();
        Checks.due("the alternate cursor has its own", Checks.cursor(t), "0,0");
        Checks.type(t, "ABCD");
        t.leaveAlt();
        Checks.type(t, "E");
        Checks.due("the saved one counts", Checks.shown(t), "^ABCD>|E...|.... 1,1");
    }

    // Every printable code, wraps, every erase mode, both screens, a region and a resize to every size, looked at
    // after each step.
    private static void afterEachStep(int capacity, Consumer<ReflowTerminal> look) {
        ReflowTerminal t = new ReflowTerminal(4, 2, capacity);
        look.accept(t);
        int code = 32;
        for (int width = 16; width >= 4; width--) {
            for (int height = 2; height <= 8; height++) {
                for (int i = 0; i < 19; i++) {
                    t.put(code);
                    code = code == 126 ? 32 : code + 1;
                }
                look.accept(t);
                t.eraseInLine(code % 3);
                look.accept(t);
                t.resize(width, height);
                look.accept(t);
                t.setScrollRegion(code % 2, height - 1);
                t.setCursor(height - 1, width - 1);
                t.put('\t');
                t.put('\n');
                look.accept(t);
                switchScreen(t);
                look.accept(t);
            }
        }
    }

    private static void switchScreen(ReflowTerminal t) {
        if (!t.enterAlt()) {
            t.leaveAlt();
        }
    }

    private static void lookAtCells(ReflowTerminal t) {
        for (int r = -t.info(ReflowTerminal.INFO_SCROLLBACK); r < t.info(ReflowTerminal.INFO_HEIGHT); r++) {
            for (int c = 0; c < t.info(ReflowTerminal.INFO_WIDTH); c++) {
                int code = t.cell(r, c);
                Checks.due("cell(" + r + ", " + c + ") is in 32..126: " + code, code >= 32 && code <= 126, true);
            }
        }
    }

    private static void lookAtRowEnds(ReflowTerminal t) {
        for (int r = -t.info(ReflowTerminal.INFO_SCROLLBACK); r < t.info(ReflowTerminal.INFO_HEIGHT); r++) {
            int last = t.info(ReflowTerminal.INFO_WIDTH) - 1;
            Checks.due("row " + r + " has cell " + last, t.cell(r, last) != -1, true);
            Checks.due("row " + r + " has no cell " + (last + 1), t.cell(r, last + 1), -1);
        }
    }

    private static void lookAtScrollback(ReflowTerminal t) {
        int n = t.info(ReflowTerminal.INFO_SCROLLBACK);
        int capacity = t.info(ReflowTerminal.INFO_CAPACITY);
        Checks.due("0 <= " + n + " <= " + capacity, n >= 0 && n <= capacity, true);
    }

    private static void lookAtCursors(ReflowTerminal t) {
        int height = t.info(ReflowTerminal.INFO_HEIGHT);
        int width = t.info(ReflowTerminal.INFO_WIDTH);
        lookAtPlace("row", t.cursorRow(), height);
        lookAtPlace("column", t.cursorCol(), width);
        lookAtPlace("main row", t.info(ReflowTerminal.INFO_MAIN_ROW), height);
        lookAtPlace("main column", t.info(ReflowTerminal.INFO_MAIN_COL), width);
        boolean pending = t.info(ReflowTerminal.INFO_PENDING) == 1;
        Checks.due("pending in the last column alone", !pending || t.cursorCol() == width - 1, true);
    }

    private static void lookAtPlace(String what, int place, int end) {
        Checks.due(what + " " + place + " of " + end, place >= 0 && place < end, true);
    }

    private static void lookAtRegion(ReflowTerminal t) {
        int top = t.info(ReflowTerminal.INFO_REGION_TOP);
        int bottom = t.info(ReflowTerminal.INFO_REGION_BOTTOM);
        int height = t.info(ReflowTerminal.INFO_HEIGHT);
        Checks.due("region " + Checks.region(t) + " of " + height, top >= 0 && top < bottom && bottom < height, true);
    }

    private static void always(String words, Consumer<ReflowTerminal> look) {
        Checks.sentence(words, () -> {
            for (int capacity : new int[] {0, 1, 16}) {
                afterEachStep(capacity, look);
            }
        });
    }

    public static void main(String[] args) {
        always("A cell holds a code 32..126", TermsTest::lookAtCells);
        always("Every row has W cells", TermsTest::lookAtRowEnds);
        always("the main buffer has n scrollback rows (0 <= n <= S", TermsTest::lookAtScrollback);
        always("The active cursor has a row y (0..H-1), a column x (0..W-1) and a pending flag.",
            TermsTest::lookAtCursors);
        always("The scroll region is rows top..bottom with 0 <= top < bottom <= H-1.", TermsTest::lookAtRegion);
        Checks.sentence("A REFUSED call changes nothing at all.", TermsTest::refusals);
        Checks.sentence("The alternate screen has H rows and no scrollback.", TermsTest::alternateHasNoScrollback);
        Checks.sentence("The active screen is the alternate screen in alternate mode, else the main screen.",
            TermsTest::activeScreen);
        Checks.sentence("The MAIN CURSOR is the active cursor in main mode and the saved main cursor in alternate mode.",
            TermsTest::mainCursor);
        Checks.sentence("A saved main cursor (row, column, pending) is used in alternate mode.",
            TermsTest::pendingFlags);
        Checks.finish();
    }
}
