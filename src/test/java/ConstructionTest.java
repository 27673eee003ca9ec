/** Promise 1: construction and initial state. */
public final class ConstructionTest {
    private static final int LOW = Integer.MIN_VALUE;
    private static final int HIGH = Integer.MAX_VALUE;

    private static void sizes(int width, int height, int scrollback, String want) {
        ReflowTerminal t = new ReflowTerminal(width, height, scrollback);
        Checks.due("sizes of " + width + ", " + height + ", " + scrollback, Checks.sizes(t), want);
    }

    private static void width() {
        int[][] widths = {{-1, 4}, {0, 4}, {3, 4}, {4, 4}, {5, 5}, {10, 10}, {15, 15}, {16, 16}, {17, 16}, {1000, 16}};
        for (int[] pair : widths) {
            ReflowTerminal t = new ReflowTerminal(pair[0], 3, 1);
            Checks.due("width of " + pair[0], Checks.sizes(t), pair[1] + "x3+1");
            Checks.due("last column", t.cell(0, pair[1] - 1), 32);
            Checks.due("behind it", t.cell(0, pair[1]), -1);
        }
    }

    private static void height() {
        int[][] heights = {{-1, 2}, {0, 2}, {1, 2}, {2, 2}, {3, 3}, {5, 5}, {7, 7}, {8, 8}, {9, 8}, {1000, 8}};
        for (int[] pair : heights) {
            ReflowTerminal t = new ReflowTerminal(6, pair[0], 1);
            Checks.due("height of " + pair[0], Checks.sizes(t), "6x" + pair[1] + "+1");
            Checks.due("last row", t.cell(pair[1] - 1, 0), 32);
            Checks.due("behind it", t.cell(pair[1], 0), -1);
        }
    }

    private static void capacity() {
        int[][] capacities = {{-1, 0}, {0, 0}, {1, 1}, {8, 8}, {15, 15}, {16, 16}, {17, 16}, {1000, 16}};
        for (int[] pair : capacities) {
            ReflowTerminal t = new ReflowTerminal(6, 3, pair[0]);
            Checks.due("capacity of " + pair[0], Checks.sizes(t), "6x3+" + pair[1]);
            for (int i = 0; i < 40; i++) {
                t.put('\n');
            }
            Checks.due("rows it takes", t.info(ReflowTerminal.INFO_SCROLLBACK), pair[1]);
        }
    }

    private static void oneOffTheEnds() {
        sizes(3, 1, -1, "4x2+0");
        sizes(4, 2, 0, "4x2+0");
        sizes(5, 3, 1, "5x3+1");
        sizes(15, 7, 15, "15x7+15");
        sizes(16, 8, 16, "16x8+16");
        sizes(17, 9, 17, "16x8+16");
    }

    private static void everyInt() {
        sizes(LOW, 5, 7, "4x5+7");
        sizes(HIGH, 5, 7, "16x5+7");
        sizes(9, LOW, 7, "9x2+7");
        sizes(9, HIGH, 7, "9x8+7");
        sizes(9, 5, LOW, "9x5+0");
        sizes(9, 5, HIGH, "9x5+16");
        sizes(LOW + 1, LOW + 1, LOW + 1, "4x2+0");
        sizes(HIGH - 1, HIGH - 1, HIGH - 1, "16x8+16");
    }

    private static void neverRefused() {
        sizes(LOW, LOW, LOW, "4x2+0");
        sizes(HIGH, HIGH, HIGH, "16x8+16");
        sizes(HIGH, LOW, HIGH, "16x2+16");
        sizes(LOW, HIGH, LOW, "4x8+0");
        sizes(0, 0, 0, "4x2+0");
        sizes(-5, 100, -5, "4x8+0");
    }

    private static void blankAndNoFlag(int width, int height) {
        ReflowTerminal t = new ReflowTerminal(width, height, 3);
        String row = ".".repeat(width);
        String blank = "^" + row + ("|" + row).repeat(height - 1);
        Checks.due("main screen of " + width + ", " + height, Checks.picture(t), blank);
        t.enterAlt();
        Checks.due("alternate screen of " + width + ", " + height, Checks.picture(t), blank);
    }

    private static void blankScreens() {
        for (int width = 4; width <= 16; width++) {
            for (int height = 2; height <= 8; height++) {
                blankAndNoFlag(width, height);
            }
        }
    }

    private static void modeAndCursor() {
        ReflowTerminal t = new ReflowTerminal(5, 3, 2);
        Checks.due("scrollback", t.info(ReflowTerminal.INFO_SCROLLBACK), 0);
        Checks.due("mode", t.info(ReflowTerminal.INFO_ALT), 0);
        Checks.due("cursor", Checks.cursor(t), "0,0");
        Checks.due("main cursor", Checks.mainCursor(t), "0,0");
        t.enterAlt();
        Checks.due("alternate cursor", Checks.cursor(t), "0,0");
        t.leaveAlt();
        Checks.due("cursor that was saved", Checks.cursor(t), "0,0");
    }

    private static void region() {
        for (int height = 2; height <= 8; height++) {
            ReflowTerminal t = new ReflowTerminal(4, height, 0);
            Checks.due("region at height " + height, Checks.region(t), "0.." + (height - 1));
        }
    }

    private static void oneEmptyLine() {
        ReflowTerminal t = new ReflowTerminal(16, 8, 16);
        Checks.due("number of lines", t.info(ReflowTerminal.INFO_LINES), 1);
        Checks.due("its length", t.lineLength(0), 0);
        Checks.due("no second line", t.lineLength(1), -1);
        Checks.due("cursor line", t.info(ReflowTerminal.INFO_CURSOR_LINE), 0);
        Checks.due("cursor offset", t.info(ReflowTerminal.INFO_CURSOR_OFFSET), 0);
    }

    private static void objectsShareNothing() {
        ReflowTerminal a = new ReflowTerminal(4, 2, 1);
        ReflowTerminal b = new ReflowTerminal(4, 2, 1);
        Checks.type(a, "ABCDEFGHI");
        Checks.due("the other object", Checks.shown(b), "^....|.... 0,0");
    }

    public static void main(String[] args) {
        Checks.sentence("sets W = width clamped into 4..16", ConstructionTest::width);
        Checks.sentence("H = height clamped into 2..8", ConstructionTest::height);
        Checks.sentence("S = scrollback clamped into 0..16", ConstructionTest::capacity);
        Checks.sentence("a value below the least becomes the least and a value above the greatest becomes the greatest",
            ConstructionTest::oneOffTheEnds);
        Checks.sentence("this holds for every int, including Integer.MIN_VALUE and Integer.MAX_VALUE",
            ConstructionTest::everyInt);
        Checks.sentence("It is never refused.", ConstructionTest::neverRefused);
        Checks.sentence("every cell (main screen and alternate screen) BLANK, every flag false",
            ConstructionTest::blankScreens);
        Checks.sentence("n = 0, main mode, active cursor (0,0) not pending, saved main cursor (0,0) not pending",
            ConstructionTest::modeAndCursor);
        Checks.sentence("region 0..H-1", ConstructionTest::region);
        Checks.sentence("there is exactly one logical line, of length 0; it is the cursor line (number 0) and k = 0",
            ConstructionTest::oneEmptyLine);
        Checks.sentence("The initial state is", ConstructionTest::objectsShareNothing);
        Checks.finish();
    }
}
