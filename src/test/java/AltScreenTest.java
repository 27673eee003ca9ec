/** Promise 6: enterAlt and leaveAlt. */
public final class AltScreenTest {
    private static ReflowTerminal used() {
        ReflowTerminal t = new ReflowTerminal(4, 3, 2);
        Checks.type(t, "ABCDEFGHIJKLMNOP");
        return t;
    }

    private static void entering() {
        ReflowTerminal t = used();
        t.setScrollRegion(1, 2);
        t.setCursor(2, 3);
        Checks.type(t, "X");
        String lines = Checks.lines(t);
        Checks.due("enterAlt()", t.enterAlt(), true);
        Checks.due("mode", t.info(ReflowTerminal.INFO_ALT), 1);
        Checks.due("a blank screen", Checks.picture(t), "ABCD>|^....|....|....");
        Checks.due("cursor", Checks.cursor(t), "0,0");
        Checks.due("region", Checks.region(t), "0..2");
        Checks.due("main cursor", Checks.mainCursor(t), "2,3");
        Checks.due("lines", Checks.lines(t), lines);
    }

    private static void leaving() {
        ReflowTerminal t = used();
        String before = Checks.state(t);
        t.enterAlt();
        Checks.type(t, "abcdefghijklmnopqrstuvw");
        t.setScrollRegion(0, 1);
        t.setCursor(1, 2);
        t.eraseInLine(ReflowTerminal.EL_TO_START);
        Checks.due("leaveAlt()", t.leaveAlt(), true);
        Checks.due("all as before, pending too", Checks.state(t), before);
        t.enterAlt();
        Checks.due("entering again clears", Checks.picture(t), "ABCD>|^....|....|....");
        Checks.due("flags too", t.wrapped(0) || t.wrapped(1) || t.wrapped(2), false);
    }

    private static void refusals() {
        ReflowTerminal t = used();
        t.setScrollRegion(0, 1);
        String before = Checks.state(t);
        Checks.due("leaveAlt() in main mode", t.leaveAlt(), false);
        Checks.due("state after leaveAlt()", Checks.state(t), before);
        t.enterAlt();
        Checks.type(t, "QRSTU");
        t.setScrollRegion(1, 2);
        t.setCursor(1, 1);
        before = Checks.state(t);
        Checks.due("enterAlt() in alternate mode", t.enterAlt(), false);
        Checks.due("state after enterAlt()", Checks.state(t), before);
        Checks.due("leaveAlt()", t.leaveAlt(), true);
        Checks.due("leaveAlt() twice", t.leaveAlt(), false);
        Checks.due("region after leaving", Checks.region(t), "0..2");
    }

    private static void pendingStaysSaved() {
        ReflowTerminal t = used();
        t.enterAlt();
        Checks.type(t, "Z");
        t.leaveAlt();
        Checks.due("cursor", Checks.cursor(t), "2,3p");
        Checks.type(t, "Q");
        Checks.due("the wrap goes on", Checks.picture(t), "ABCD>|EFGH>|^IJKL>|MNOP>|Q...");
        t.enterAlt();
        Checks.type(t, "WXYZ");
        t.leaveAlt();
        Checks.due("the alternate pending is not kept", Checks.cursor(t), "2,1");
    }

    private static void refusalsOnFreshObject() {
        ReflowTerminal t = new ReflowTerminal(4, 2, 0);
        Checks.due("leaveAlt() first", t.leaveAlt(), false);
        Checks.due("enterAlt()", t.enterAlt(), true);
        Checks.due("leaveAlt()", t.leaveAlt(), true);
        Checks.due("cursor", Checks.cursor(t), "0,0");
    }

    public static void main(String[] args) {
        entering();
        leaving();
        refusals();
        pendingStaysSaved();
        refusalsOnFreshObject();
        Checks.finish();
    }
}
