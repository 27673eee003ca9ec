/** Promise 4: setScrollRegion. */
public final class ScrollRegionTest {
    private static final String REFUSED
        = "is refused (answers false, nothing changes) unless 0 <= top < bottom <= H-1 ";
    private static final String ROWS = "ZZZZ>|^AAAA>|BBBB|CCCC>|DDDD";

    private static ReflowTerminal pendingInMain() {
        ReflowTerminal t = Checks.drawn(ROWS, 2, 0, 0);
        Checks.within(t, 1, 2, 0, 0);
        Checks.pendingIn(t, 3);
        return t;
    }

    private static ReflowTerminal pendingInAlternate() {
        ReflowTerminal t = pendingInMain();
        t.enterAlt();
        Checks.type(t, "uvwxyz12");
        return t;
    }

    private static void refused(int top, int bottom) {
        String call = "setScrollRegion(" + top + ", " + bottom + ")";
        Checks.refused(call, ScrollRegionTest::pendingInMain, t -> t.setScrollRegion(top, bottom));
        Checks.refused(call, ScrollRegionTest::pendingInAlternate, t -> t.setScrollRegion(top, bottom));
    }

    private static void topTooSmall() {
        refused(-1, 3);
        refused(-1, 0);
        refused(-2, -1);
        refused(Integer.MIN_VALUE, 3);
        refused(Integer.MIN_VALUE, Integer.MAX_VALUE);
    }

    private static void topNotBelowBottom() {
        refused(0, 0);
        refused(2, 2);
        refused(3, 3);
        refused(1, 0);
        refused(3, 2);
        refused(3, 0);
        refused(2, Integer.MIN_VALUE);
        refused(Integer.MAX_VALUE, Integer.MIN_VALUE);
        refused(Integer.MAX_VALUE, 3);
    }

    private static void bottomTooLarge() {
        refused(0, 4);
        refused(3, 4);
        refused(4, 5);
        refused(0, 8);
        refused(0, Integer.MAX_VALUE);
        refused(Integer.MAX_VALUE - 1, Integer.MAX_VALUE);
    }

    private static void everyPair() {
        for (int height = 2; height <= 8; height++) {
            for (int top = -1; top <= height; top++) {
                for (int bottom = -1; bottom <= height; bottom++) {
                    ReflowTerminal t = new ReflowTerminal(4, height, 0);
                    boolean due = 0 <= top && top < bottom && bottom <= height - 1;
                    String call = "setScrollRegion(" + top + ", " + bottom + ") at height " + height;
                    Checks.due(call, t.setScrollRegion(top, bottom), due);
                    Checks.due("region after it", Checks.region(t), due ? top + ".." + bottom : "0.." + (height - 1));
                }
            }
        }
    }

    private static void cursorGoesHome() {
        int[][] regions = {{0, 3}, {0, 1}, {1, 2}, {2, 3}};
        for (int[] region : regions) {
            ReflowTerminal t = pendingInMain();
            Checks.due("setScrollRegion", t.setScrollRegion(region[0], region[1]), true);
            Checks.due("region", Checks.region(t), region[0] + ".." + region[1]);
            Checks.due("cursor, and no row changes", Checks.shown(t), ROWS + " 0,0");
        }
    }

    private static void pendingGoes() {
        ReflowTerminal t = pendingInMain();
        Checks.pendingIn(t, 0);
        t.setScrollRegion(2, 3);
        Checks.due("cursor", Checks.cursor(t), "0,0");
        Checks.type(t, "x");
        Checks.due("no wrap follows", Checks.shown(t), "ZZZZ>|^xAAA>|BBBB|CCCC>|DDDD 0,1");
    }

    private static void sameRegionAgain() {
        ReflowTerminal t = pendingInMain();
        Checks.due("setScrollRegion(1, 2)", t.setScrollRegion(1, 2), true);
        Checks.due("cursor goes all the same", Checks.cursor(t), "0,0");
    }

    private static void savedCursorStays() {
        ReflowTerminal t = pendingInAlternate();
        Checks.due("setScrollRegion(2, 3)", t.setScrollRegion(2, 3), true);
        Checks.due("alternate screen", Checks.shown(t), "ZZZZ>|^uvwx>|yz12|....|.... 0,0");
        Checks.due("main cursor", Checks.mainCursor(t), "3,3");
        t.leaveAlt();
        Checks.due("main buffer", Checks.shown(t), ROWS + " 3,3p");
    }

    private static void heightAfterResize() {
        ReflowTerminal t = new ReflowTerminal(4, 3, 0);
        Checks.due("(1, 3) at height 3", t.setScrollRegion(1, 3), false);
        t.resize(4, 5);
        Checks.due("(1, 4) at height 5", t.setScrollRegion(1, 4), true);
        Checks.due("(1, 5) at height 5", t.setScrollRegion(1, 5), false);
        t.resize(4, 2);
        Checks.due("(0, 2) at height 2", t.setScrollRegion(0, 2), false);
        Checks.due("(0, 1) at height 2", t.setScrollRegion(0, 1), true);
    }

    public static void main(String[] args) {
        Checks.sentence(REFUSED + "[top below 0]", ScrollRegionTest::topTooSmall);
        Checks.sentence(REFUSED + "[top not below bottom]", ScrollRegionTest::topNotBelowBottom);
        Checks.sentence(REFUSED + "[bottom above H-1]", ScrollRegionTest::bottomTooLarge);
        Checks.sentence(REFUSED + "[every pair]", ScrollRegionTest::everyPair);
        Checks.sentence("the active cursor goes to row 0 column 0 (not to the region's top)",
            ScrollRegionTest::cursorGoesHome);
        Checks.sentence("pending = false; answers true", ScrollRegionTest::pendingGoes);
        Checks.sentence("Else region = top..bottom, the active cursor goes to row 0 column 0",
            ScrollRegionTest::sameRegionAgain);
        Checks.sentence("No cell, flag or scrollback row changes; the saved main cursor does not change.",
            ScrollRegionTest::savedCursorStays);
        Checks.sentence(REFUSED + "[with the H of now]", ScrollRegionTest::heightAfterResize);
        Checks.finish();
    }
}
