/** Promise 5: setCursor. */
public final class SetCursorTest {
    private static ReflowTerminal used() {
        ReflowTerminal t = new ReflowTerminal(5, 3, 2);
        t.setScrollRegion(1, 2);
        Checks.type(t, "ABCDE");
        return t;
    }

    private static void accepted(int row, int col) {
        ReflowTerminal t = used();
        Checks.due("pending before", Checks.cursor(t), "0,4p");
        Checks.due("setCursor(" + row + ", " + col + ")", t.setCursor(row, col), true);
        Checks.due("cursor", Checks.cursor(t), row + "," + col);
        Checks.due("rows stay", Checks.picture(t), "^ABCDE|.....|.....");
        Checks.due("region stays", Checks.region(t), "1..2");
    }

    private static void refused(int row, int col) {
        ReflowTerminal t = used();
        String before = Checks.state(t);
        Checks.due("setCursor(" + row + ", " + col + ")", t.setCursor(row, col), false);
        Checks.due("state after refusal", Checks.state(t), before);
    }

    private static void alternateMode() {
        ReflowTerminal t = used();
        t.enterAlt();
        Checks.due("in alternate mode", t.setCursor(2, 1), true);
        Checks.due("alternate cursor", Checks.cursor(t), "2,1");
        Checks.due("main cursor stays", Checks.mainCursor(t), "0,4");
    }

    public static void main(String[] args) {
        accepted(0, 0);
        accepted(0, 4);
        accepted(2, 0);
        accepted(2, 4);
        accepted(1, 3);
        refused(-1, 0);
        refused(0, -1);
        refused(3, 0);
        refused(0, 5);
        refused(2, 5);
        refused(3, 4);
        refused(Integer.MIN_VALUE, 0);
        refused(0, Integer.MIN_VALUE);
        refused(Integer.MAX_VALUE, 0);
        refused(0, Integer.MAX_VALUE);
        alternateMode();
        Checks.finish();
    }
}
