/** The shared term LINE FEED, made by LF and by a character behind a pending cursor. */
public final class LineFeedTest {
    private static final String ROWS = "^AAAA|BBBB|CCCC|DDDD|EEEE";

    private static void fed(int top, int bottom, int row, String want) {
        ReflowTerminal t = Checks.drawn(ROWS, 3, 0, 0);
        Checks.within(t, top, bottom, row, 2);
        Checks.type(t, "\n");
        Checks.due("LF in row " + row + ", region " + top + ".." + bottom, Checks.shown(t), want);
    }

    private static void atTheBottom() {
        fed(0, 4, 4, "AAAA|^BBBB|CCCC|DDDD|EEEE|.... 4,2");
        fed(0, 2, 2, "AAAA|^BBBB|CCCC|....|DDDD|EEEE 2,2");
        fed(1, 3, 3, "^AAAA|CCCC|DDDD|....|EEEE 3,2");
        fed(3, 4, 4, "^AAAA|BBBB|CCCC|EEEE|.... 4,2");
    }

    private static void aboveTheBottom() {
        fed(0, 4, 0, ROWS + " 1,2");
        fed(0, 4, 3, ROWS + " 4,2");
        fed(1, 3, 1, ROWS + " 2,2");
        fed(1, 3, 2, ROWS + " 3,2");
    }

    private static void aboveTheRegion() {
        fed(2, 3, 0, ROWS + " 1,2");
        fed(2, 3, 1, ROWS + " 2,2");
    }

    private static void belowTheRegion() {
        fed(0, 1, 2, ROWS + " 3,2");
        fed(1, 2, 3, ROWS + " 4,2");
    }

    private static void lastRowBelowTheRegion() {
        fed(0, 3, 4, ROWS + " 4,2");
        fed(0, 1, 4, ROWS + " 4,2");
        fed(1, 2, 4, ROWS + " 4,2");
    }

    private static void alternateScreen() {
        ReflowTerminal t = new ReflowTerminal(4, 3, 2);
        t.enterAlt();
        Checks.type(t, "A\nB\nC");
        Checks.within(t, 0, 1, 0, 1);
        Checks.type(t, "\n");
        Checks.due("above the bottom", Checks.shown(t), "^A...|.B..|..C. 1,1");
        Checks.type(t, "\n");
        Checks.due("at the bottom", Checks.shown(t), "^.B..|....|..C. 1,1");
        t.setCursor(2, 0);
        Checks.type(t, "\n");
        Checks.due("in the last row below the region", Checks.shown(t), "^.B..|....|..C. 2,0");
    }

    private static void wrapped(int top, int bottom, int row, String want) {
        ReflowTerminal t = Checks.drawn(ROWS, 3, 0, 0);
        Checks.within(t, top, bottom, row, 0);
        Checks.pendingIn(t, row);
        Checks.type(t, "x");
        Checks.due("wrap in row " + row + ", region " + top + ".." + bottom, Checks.shown(t), want);
    }

    private static void wraps() {
        wrapped(0, 4, 4, "AAAA|^BBBB|CCCC|DDDD|EEEE>|x... 4,1");
        wrapped(0, 4, 3, "^AAAA|BBBB|CCCC|DDDD>|xEEE 4,1");
        wrapped(2, 3, 1, "^AAAA|BBBB>|xCCC|DDDD|EEEE 2,1");
        wrapped(0, 1, 2, "^AAAA|BBBB|CCCC>|xDDD|EEEE 3,1");
        wrapped(0, 3, 4, "^AAAA|BBBB|CCCC|DDDD|xEEE> 4,1");
    }

    public static void main(String[] args) {
        Checks.sentence("if y == bottom, SCROLL (y stays)", LineFeedTest::atTheBottom);
        Checks.sentence("else if y < H-1, y = y+1 [inside the region]", LineFeedTest::aboveTheBottom);
        Checks.sentence("else if y < H-1, y = y+1 [above the region]", LineFeedTest::aboveTheRegion);
        Checks.sentence("else if y < H-1, y = y+1 [below the region]", LineFeedTest::belowTheRegion);
        Checks.sentence("else nothing", LineFeedTest::lastRowBelowTheRegion);
        Checks.sentence("SCROLL (of the active screen)", LineFeedTest::alternateScreen);
        Checks.sentence("The LINE FEED in step (1) follows the rules above", LineFeedTest::wraps);
        Checks.finish();
    }
}
