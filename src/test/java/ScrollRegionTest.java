/** Promise 4: setScrollRegion. */
public final class ScrollRegionTest {
    private static ReflowTerminal used() {
        ReflowTerminal t = new ReflowTerminal(4, 4, 2);
        Checks.type(t, "ABCDEFGHIJKLMNOPQRST");
        return t;
    }

    private static void accepted(int top, int bottom) {
        ReflowTerminal t = used();
        String before = Checks.picture(t);
        Checks.due("pending before", Checks.cursor(t), "3,3p");
        Checks.due("setScrollRegion(" + top + ", " + bottom + ")", t.setScrollRegion(top, bottom), true);
        Checks.due("region", Checks.region(t), top + ".." + bottom);
        Checks.due("cursor goes to 0,0", Checks.cursor(t), "0,0");
        Checks.due("rows stay", Checks.picture(t), before);
    }

    private static void refused(int top, int bottom) {
        ReflowTerminal t = used();
        t.setScrollRegion(1, 2);
        t.setCursor(3, 3);
        Checks.type(t, "X");
        String before = Checks.state(t);
        Checks.due("setScrollRegion(" + top + ", " + bottom + ")", t.setScrollRegion(top, bottom), false);
        Checks.due("state after refusal", Checks.state(t), before);
    }

    private static void alternateMode() {
        ReflowTerminal t = used();
        t.enterAlt();
        t.setCursor(2, 2);
        Checks.due("in alternate mode", t.setScrollRegion(2, 3), true);
        Checks.due("alternate cursor", Checks.cursor(t), "0,0");
        Checks.due("saved main cursor stays", Checks.mainCursor(t), "3,3");
        t.leaveAlt();
        Checks.due("saved pending stays", Checks.cursor(t), "3,3p");
    }

    public static void main(String[] args) {
        accepted(0, 3);
        accepted(0, 1);
        accepted(2, 3);
        accepted(1, 2);
        refused(-1, 2);
        refused(0, 4);
        refused(2, 2);
        refused(0, 0);
        refused(3, 3);
        refused(2, 1);
        refused(3, 4);
        refused(-2, -1);
        refused(Integer.MIN_VALUE, 3);
        refused(0, Integer.MAX_VALUE);
        refused(Integer.MAX_VALUE, Integer.MIN_VALUE);
        refused(Integer.MIN_VALUE, Integer.MAX_VALUE);
        alternateMode();
        Checks.finish();
    }
}
