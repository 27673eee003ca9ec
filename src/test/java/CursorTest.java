/** Promise 9: cursorRow and cursorCol. */
public final class CursorTest {
    private static void cursor(String what, ReflowTerminal t, int row, int col) {
        Checks.due("row " + what, t.cursorRow(), row);
        Checks.due("column " + what, t.cursorCol(), col);
    }

    private static void corners() {
        ReflowTerminal t = new ReflowTerminal(16, 8, 2);
        cursor("at the start", t, 0, 0);
        t.setCursor(7, 15);
        cursor("in the last place", t, 7, 15);
        t.setCursor(7, 0);
        cursor("in the last row", t, 7, 0);
        t.setCursor(0, 15);
        cursor("in the last column", t, 0, 15);
    }

    private static void pendingCursor() {
        ReflowTerminal t = Checks.typed(6, 4, 2, "ABCDEF");
        cursor("of a pending cursor", t, 0, 5);
        Checks.type(t, "G");
        cursor("after the wrap", t, 1, 1);
    }

    private static ReflowTerminal inAlternate() {
        ReflowTerminal t = new ReflowTerminal(6, 4, 2);
        t.setCursor(2, 5);
        Checks.type(t, "X");
        t.enterAlt();
        return t;
    }

    private static void alternateMode() {
        ReflowTerminal t = inAlternate();
        cursor("on entering", t, 0, 0);
        t.setCursor(3, 1);
        cursor("in alternate mode", t, 3, 1);
        Checks.due("main cursor", Checks.mainCursor(t), "2,5");
        t.leaveAlt();
        cursor("on leaving", t, 2, 5);
    }

    private static void nothingChanges() {
        Checks.changesNothing("cursorRow()", CursorTest::inAlternate, ReflowTerminal::cursorRow);
        Checks.changesNothing("cursorCol()", CursorTest::inAlternate, ReflowTerminal::cursorCol);
        Checks.changesNothing("cursorRow()", () -> Checks.typed(4, 2, 1, "ABCD"), ReflowTerminal::cursorRow);
        Checks.changesNothing("cursorCol()", () -> Checks.typed(4, 2, 1, "ABCD"), ReflowTerminal::cursorCol);
    }

    public static void main(String[] args) {
        Checks.sentence("answers the active cursor row y; cursorCol() answers the active cursor column x",
            CursorTest::corners);
        Checks.sentence("a column x (0..W-1) and a pending flag", CursorTest::pendingCursor);
        Checks.sentence("In alternate mode these are the alternate screen's cursor, not the saved main cursor.",
            CursorTest::alternateMode);
        Checks.sentence("Neither changes anything.", CursorTest::nothingChanges);
        Checks.finish();
    }
}
