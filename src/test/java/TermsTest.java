/** The words of "What it is" that name a boundary and that every promise uses. */
public final class TermsTest {
    private static ReflowTerminal pendingInMain() {
        ReflowTerminal t = Checks.drawn("AAAA>|^BBBB>|CCCC|DDDD>", 2, 0, 0);
        Checks.within(t, 0, 1, 0, 0);
        Checks.pendingIn(t, 2);
        return t;
    }

    private static ReflowTerminal pendingInAlternate() {
        ReflowTerminal t = pendingInMain();
        t.enterAlt();
        Checks.type(t, "uvwxyz12");
        Checks.within(t, 1, 2, 0, 0);
        Checks.pendingIn(t, 0);
        return t;
    }

    private static boolean anyRefused(ReflowTerminal t) {
        boolean taken = false;
        for (int wrong : new int[] {Integer.MIN_VALUE, -1, 127, Integer.MAX_VALUE}) {
            taken |= t.put(wrong);
            taken |= t.eraseInLine(wrong);
            taken |= t.setScrollRegion(wrong, 2);
            taken |= t.setScrollRegion(0, wrong);
            taken |= t.setCursor(wrong, 0);
            taken |= t.setCursor(0, wrong);
        }
        return taken | (t.info(ReflowTerminal.INFO_ALT) == 1 ? t.enterAlt() : t.leaveAlt());
    }

    private static void refusals() {
        Checks.refused("every refused call in main mode", TermsTest::pendingInMain, TermsTest::anyRefused);
        Checks.refused("every refused call in alternate mode", TermsTest::pendingInAlternate, TermsTest::anyRefused);
        Checks.refused("every refused call on a new object", () -> new ReflowTerminal(4, 3, 2), TermsTest::anyRefused);
    }

    private static void alternateHasNoScrollback() {
        ReflowTerminal t = new ReflowTerminal(4, 2, 16);
        t.enterAlt();
        Checks.type(t, "ABCDEFGHIJKLMNOP");
        Checks.due("rows that left the screen", Checks.picture(t), "^IJKL>|MNOP");
        Checks.due("cell(-1, 0)", t.cell(-1, 0), -1);
        Checks.due("H rows", t.cell(2, 0), -1);
    }

    private static void activeScreen() {
        ReflowTerminal t = Checks.typed(4, 2, 0, "A");
        t.enterAlt();
        Checks.type(t, "B");
        Checks.due("in alternate mode", Checks.shown(t), "^B...|.... 0,1");
        t.leaveAlt();
        Checks.type(t, "C");
        Checks.due("in main mode", Checks.shown(t), "^AC..|.... 0,2");
    }

    private static void mainCursor() {
        ReflowTerminal t = Checks.typed(4, 3, 0, "AB");
        Checks.due("in main mode", Checks.mainCursor(t), "0,2");
        t.enterAlt();
        t.setCursor(2, 3);
        Checks.due("in alternate mode", Checks.mainCursor(t), "0,2");
        t.leaveAlt();
        t.setCursor(2, 3);
        Checks.due("in main mode again", Checks.mainCursor(t), "2,3");
    }

    private static void pendingFlags() {
        ReflowTerminal t = Checks.typed(4, 3, 0, "ABCD");
        t.enterAlt();
        Checks.due("the alternate cursor has its own", Checks.cursor(t), "0,0");
        Checks.type(t, "ABCD");
        t.leaveAlt();
        Checks.type(t, "E");
        Checks.due("the saved one counts", Checks.shown(t), "^ABCD>|E...|.... 1,1");
    }

    public static void main(String[] args) {
        Checks.sentence("A REFUSED call changes nothing at all.", TermsTest::refusals);
        Checks.sentence("The alternate screen has H rows and no scrollback.", TermsTest::alternateHasNoScrollback);
        Checks.sentence("The active screen is the alternate screen in alternate mode, else the main screen.",
            TermsTest::activeScreen);
        Checks.sentence("The MAIN CURSOR is the active cursor in main mode and the saved main cursor in alternate mode.",
            TermsTest::mainCursor);
        Checks.sentence("A saved main cursor (row, column, pending) is used in alternate mode.",
            TermsTest::pendingFlags);
        Checks.finish();
    }
}
