/** Promise 5: setCursor. */
public final class SetCursorTest {
    private static final String REFUSED
        = "is refused (answers false, nothing changes) unless 0 <= row <= H-1 and 0 <= col <= W-1 ";
    private static final String ROWS = "ZZZZZ>|^AAAAA>|BBBBB|CCCCC>|DDDDD";

    private static ReflowTerminal pendingInMain() {
        ReflowTerminal t = Checks.drawn(ROWS, 2, 0, 0);
        Checks.within(t, 1, 2, 0, 0);
        Checks.pendingIn(t, 2);
        return t;
    }

    private static ReflowTerminal pendingInAlternate() {
        ReflowTerminal t = pendingInMain();
        t.enterAlt();
        Checks.type(t, "uvwxyz1234");
        return t;
    }

    private static void refused(int row, int col) {
        String call = "setCursor(" + row + ", " + col + ")";
        Checks.refused(call, SetCursorTest::pendingInMain, t -> t.setCursor(row, col));
        Checks.refused(call, SetCursorTest::pendingInAlternate, t -> t.setCursor(row, col));
    }

    private static void wrongRows() {
        for (int row : new int[] {-1, 4, -2, 5, 8, Integer.MIN_VALUE, Integer.MAX_VALUE}) {
            refused(row, 0);
            refused(row, 4);
        }
    }

    private static void wrongCols() {
        for (int col : new int[] {-1, 5, -2, 6, 16, Integer.MIN_VALUE, Integer.MAX_VALUE}) {
            refused(0, col);
            refused(3, col);
        }
    }

    private static void bothWrong() {
        refused(-1, -1);
        refused(4, 5);
        refused(Integer.MAX_VALUE, Integer.MIN_VALUE);
    }

    private static void everyPlace(int width, int height) {
        for (int row = -1; row <= height; row++) {
            for (int col = -1; col <= width; col++) {
                ReflowTerminal t = new ReflowTerminal(width, height, 0);
                boolean due = 0 <= row && row <= height - 1 && 0 <= col && col <= width - 1;
                Checks.due("setCursor(" + row + ", " + col + ")", t.setCursor(row, col), due);
                Checks.due("cursor after it", Checks.cursor(t), due ? row + "," + col : "0,0");
            }
        }
    }

    private static void everyPlaces() {
        everyPlace(4, 2);
        everyPlace(7, 5);
        everyPlace(16, 8);
    }

    private static void regionIgnored() {
        for (int row = 0; row < 4; row++) {
            ReflowTerminal t = pendingInMain();
            Checks.due("setCursor(" + row + ", 3)", t.setCursor(row, 3), true);
            Checks.due("cursor", Checks.cursor(t), row + ",3");
            Checks.due("region", Checks.region(t), "1..2");
        }
    }

    private static void pendingGoes() {
        ReflowTerminal t = pendingInMain();
        Checks.due("setCursor(2, 4), where it stands", t.setCursor(2, 4), true);
        Checks.due("pending goes, nothing else changes", Checks.shown(t), ROWS + " 2,4");
        Checks.type(t, "x");
        Checks.due("no wrap follows", Checks.shown(t), "ZZZZZ>|^AAAAA>|BBBBB|CCCCx>|DDDDD 2,4p");
    }

    private static void savedCursorStays() {
        ReflowTerminal t = pendingInAlternate();
        Checks.due("setCursor(3, 1)", t.setCursor(3, 1), true);
        Checks.due("alternate screen", Checks.shown(t), "ZZZZZ>|^uvwxy>|z1234|.....|..... 3,1");
        Checks.due("main cursor", Checks.mainCursor(t), "2,4");
        t.leaveAlt();
        Checks.due("main buffer", Checks.shown(t), ROWS + " 2,4p");
    }

    private static void sizesAfterResize() {
        ReflowTerminal t = new ReflowTerminal(5, 3, 0);
        Checks.due("(3, 5) at 5x3", t.setCursor(3, 5), false);
        t.resize(6, 4);
        Checks.due("(3, 5) at 6x4", t.setCursor(3, 5), true);
        t.setCursor(0, 0);
        t.resize(4, 2);
        Checks.due("(2, 3) at 4x2", t.setCursor(2, 3), false);
        Checks.due("(1, 4) at 4x2", t.setCursor(1, 4), false);
        Checks.due("(1, 3) at 4x2", t.setCursor(1, 3), true);
    }

    public static void main(String[] args) {
        Checks.sentence(REFUSED + "[wrong rows]", SetCursorTest::wrongRows);
        Checks.sentence(REFUSED + "[wrong columns]", SetCursorTest::wrongCols);
        Checks.sentence(REFUSED + "[both wrong]", SetCursorTest::bothWrong);
        Checks.sentence("Else active cursor y = row, x = col", SetCursorTest::everyPlaces);
        Checks.sentence("the region is ignored", SetCursorTest::regionIgnored);
        Checks.sentence("pending = false; answers true. Nothing else changes.", SetCursorTest::pendingGoes);
        Checks.sentence("Else active cursor y = row, x = col [in alternate mode]", SetCursorTest::savedCursorStays);
        Checks.sentence(REFUSED + "[with the H and W of now]", SetCursorTest::sizesAfterResize);
        Checks.finish();
    }
}
