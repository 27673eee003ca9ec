/** Promise 1: construction and initial state. */
public final class ConstructionTest {
    private static void sizes(int width, int height, int scrollback, String want) {
        ReflowTerminal t = new ReflowTerminal(width, height, scrollback);
        String got = t.info(ReflowTerminal.INFO_WIDTH) + "x" + t.info(ReflowTerminal.INFO_HEIGHT)
            + "+" + t.info(ReflowTerminal.INFO_CAPACITY);
        Checks.due("sizes of " + width + ", " + height + ", " + scrollback, got, want);
    }

    private static void clamping() {
        sizes(4, 2, 0, "4x2+0");
        sizes(16, 8, 16, "16x8+16");
        sizes(10, 5, 7, "10x5+7");
        sizes(3, 1, -1, "4x2+0");
        sizes(17, 9, 17, "16x8+16");
        sizes(5, 3, 1, "5x3+1");
        sizes(15, 7, 15, "15x7+15");
        sizes(Integer.MIN_VALUE, Integer.MIN_VALUE, Integer.MIN_VALUE, "4x2+0");
        sizes(Integer.MAX_VALUE, Integer.MAX_VALUE, Integer.MAX_VALUE, "16x8+16");
        sizes(Integer.MAX_VALUE, Integer.MIN_VALUE, 3, "16x2+3");
    }

    private static void initialState() {
        ReflowTerminal t = new ReflowTerminal(5, 3, 2);
        Checks.due("picture", Checks.picture(t), "^.....|.....|.....");
        Checks.due("cursor", Checks.cursor(t), "0,0");
        Checks.due("main cursor", Checks.mainCursor(t), "0,0");
        Checks.due("region", Checks.region(t), "0..2");
        Checks.due("mode", t.info(ReflowTerminal.INFO_ALT), 0);
        Checks.due("scrollback", t.info(ReflowTerminal.INFO_SCROLLBACK), 0);
        Checks.due("number of lines", t.info(ReflowTerminal.INFO_LINES), 1);
        Checks.due("lines", Checks.lines(t), "@0,0");
        Checks.due("length of the one line", t.lineLength(0), 0);
        t.enterAlt();
        Checks.due("alternate screen", Checks.picture(t), "^.....|.....|.....");
    }

    private static void objectsShareNothing() {
        ReflowTerminal a = new ReflowTerminal(4, 2, 1);
        ReflowTerminal b = new ReflowTerminal(4, 2, 1);
        Checks.type(a, "ABCDEFGHI");
        Checks.due("the other object", Checks.picture(b), "^....|....");
    }

    public static void main(String[] args) {
        clamping();
        initialState();
        objectsShareNothing();
        Checks.finish();
    }
}
