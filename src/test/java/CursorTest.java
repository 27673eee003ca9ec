/** Promise 9: cursorRow and cursorCol. */
public final class CursorTest {
    public static void main(String[] args) {
        ReflowTerminal t = new ReflowTerminal(6, 4, 2);
        Checks.due("new row", t.cursorRow(), 0);
        Checks.due("new column", t.cursorCol(), 0);
        t.setCursor(2, 5);
        Checks.due("row", t.cursorRow(), 2);
        Checks.due("column", t.cursorCol(), 5);
        Checks.type(t, "X");
        Checks.due("pending stays in the last column", t.cursorCol(), 5);
        t.enterAlt();
        Checks.due("alternate row", t.cursorRow(), 0);
        Checks.due("alternate column", t.cursorCol(), 0);
        t.setCursor(3, 1);
        Checks.due("alternate row set", t.cursorRow(), 3);
        Checks.due("alternate column set", t.cursorCol(), 1);
        String before = Checks.state(t);
        t.cursorRow();
        t.cursorCol();
        Checks.due("asking changes nothing", Checks.state(t), before);
        t.leaveAlt();
        Checks.due("main row again", t.cursorRow(), 2);
        Checks.due("main column again", t.cursorCol(), 5);
        Checks.finish();
    }
}
