/** Promise 2: put, with SCROLL and LINE FEED. */
public final class PutTest {
    private static void printing() {
        ReflowTerminal t = new ReflowTerminal(4, 3, 2);
        Checks.type(t, "AB");
        Checks.due("two characters", Checks.picture(t) + " " + Checks.cursor(t), "^AB..|....|.... 0,2");
        Checks.type(t, "CD");
        Checks.due("full row is pending", Checks.picture(t) + " " + Checks.cursor(t), "^ABCD|....|.... 0,3p");
        Checks.type(t, "E");
        Checks.due("soft wrap", Checks.picture(t) + " " + Checks.cursor(t), "^ABCD>|E...|.... 1,1");
        Checks.type(t, " ~");
        Checks.due("ends of the printable codes", t.cell(1, 1) + "," + t.cell(1, 2), "32,126");
    }

    private static void refusals() {
        int[] codes = {-1, 0, 1, 7, 11, 12, 14, 27, 31, 127, 128, 65 + 256, Integer.MIN_VALUE, Integer.MAX_VALUE};
        ReflowTerminal t = new ReflowTerminal(4, 3, 2);
        Checks.type(t, "ABCDEFGH");
        for (int c : codes) {
            String before = Checks.state(t);
            Checks.due("put(" + c + ")", t.put(c), false);
            Checks.due("state after put(" + c + ")", Checks.state(t), before);
        }
        Checks.type(t, "I");
        Checks.due("still pending after refusals", Checks.picture(t), "^ABCD>|EFGH>|I...");
    }

    private static void carriageReturn() {
        ReflowTerminal t = new ReflowTerminal(4, 3, 2);
        Checks.type(t, "ABCD\rE");
        Checks.due("CR drops pending", Checks.picture(t) + " " + Checks.cursor(t), "^EBCD|....|.... 0,1");
    }

    private static void lineFeeds() {
        ReflowTerminal t = new ReflowTerminal(4, 2, 1);
        Checks.type(t, "ABCD\n");
        Checks.due("LF drops pending, keeps the column", Checks.cursor(t), "1,3");
        Checks.due("LF sets no flag", t.wrapped(0), false);
        Checks.type(t, "E");
        Checks.due("pending again", Checks.cursor(t), "1,3p");
        Checks.type(t, "\n");
        Checks.due("LF at the bottom scrolls", Checks.picture(t) + " " + Checks.cursor(t), "ABCD|^...E|.... 1,3");
    }

    private static void backspaceAndTab() {
        ReflowTerminal t = new ReflowTerminal(12, 2, 0);
        Checks.type(t, "\b");
        Checks.due("BS at column 0", Checks.cursor(t), "0,0");
        Checks.type(t, "\t");
        Checks.due("TAB from 0", Checks.cursor(t), "0,8");
        Checks.type(t, "\t");
        Checks.due("TAB to the last column", Checks.cursor(t), "0,11");
        Checks.type(t, "\t");
        Checks.due("TAB at the last column", Checks.cursor(t), "0,11");
        Checks.type(t, "X");
        Checks.due("pending", Checks.cursor(t), "0,11p");
        Checks.type(t, "\t");
        Checks.due("TAB drops pending", Checks.cursor(t), "0,11");
        Checks.type(t, "Y\b");
        Checks.due("BS drops pending and moves", Checks.cursor(t), "0,10");
        t.setCursor(1, 7);
        Checks.type(t, "\t");
        Checks.due("TAB from 7", Checks.cursor(t), "1,8");
        t.setCursor(1, 3);
        Checks.type(t, "\tZ");
        Checks.due("TAB writes nothing", Checks.picture(t), "^...........Y|........Z...");
        ReflowTerminal wide = new ReflowTerminal(16, 2, 0);
        Checks.type(wide, "\t\t");
        Checks.due("TAB from 8 at width 16", Checks.cursor(wide), "0,15");
    }

    private static void scrollback() {
        ReflowTerminal t = new ReflowTerminal(4, 2, 2);
        Checks.type(t, "ABCDEFGHI");
        Checks.due("one row left", Checks.picture(t) + " " + Checks.cursor(t), "ABCD>|^EFGH>|I... 1,1");
        Checks.type(t, "\r\nJ");
        Checks.due("two rows left", Checks.picture(t), "ABCD>|EFGH>|^I...|J...");
        Checks.type(t, "\r\nK");
        Checks.due("the oldest is removed", Checks.picture(t), "EFGH>|I...|^J...|K...");
        ReflowTerminal none = new ReflowTerminal(4, 2, 0);
        Checks.type(none, "ABCDEFGHIJ");
        Checks.due("without scrollback", Checks.picture(none), "^EFGH>|IJ..");
    }

    private static void fillRows(ReflowTerminal t) {
        for (int r = 0; r < t.info(ReflowTerminal.INFO_HEIGHT); r++) {
            t.setCursor(r, 0);
            t.put('A' + r);
        }
    }

    private static void regions() {
        ReflowTerminal t = new ReflowTerminal(4, 4, 4);
        fillRows(t);
        t.setScrollRegion(1, 2);
        t.setCursor(2, 1);
        Checks.type(t, "\n");
        Checks.due("a region below the top", Checks.picture(t) + " " + Checks.cursor(t), "^A...|C...|....|D... 2,1");
        t.setScrollRegion(0, 1);
        t.setCursor(1, 3);
        Checks.type(t, "XY");
        Checks.due("a region at the top", Checks.picture(t) + " " + Checks.cursor(t),
            "A...|^C..X>|Y...|....|D... 1,1");
        t.setScrollRegion(0, 1);
        t.setCursor(2, 0);
        Checks.type(t, "\n\n");
        Checks.due("below the region LF moves, then stays", Checks.cursor(t), "3,0");
        Checks.type(t, "EFGHI");
        Checks.due("wrap below the region", Checks.picture(t) + " " + Checks.cursor(t),
            "A...|^C..X>|Y...|....|IFGH> 3,1");
    }

    private static void fullScrollbackWithRegion() {
        ReflowTerminal t = new ReflowTerminal(4, 3, 1);
        fillRows(t);
        t.setScrollRegion(0, 1);
        t.setCursor(1, 0);
        Checks.type(t, "\n");
        Checks.due("room in the scrollback", Checks.picture(t), "A...|^B...|....|C...");
        Checks.type(t, "X");
        Checks.type(t, "\r\nY");
        Checks.due("no room in the scrollback", Checks.picture(t), "B...|^X...|Y...|C...");
    }

    private static void greatestSizes() {
        ReflowTerminal t = new ReflowTerminal(16, 8, 16);
        for (int i = 0; i < 30 * 16; i++) {
            t.put('A' + i / 16 % 26);
        }
        Checks.due("oldest row", Checks.row(t, -16), "GGGGGGGGGGGGGGGG>");
        Checks.due("newest row of the scrollback", Checks.row(t, -1), "VVVVVVVVVVVVVVVV>");
        Checks.due("last row", Checks.row(t, 7), "DDDDDDDDDDDDDDDD");
        t.enterAlt();
        for (int i = 0; i < 10 * 16; i++) {
            t.put('a' + i / 16);
        }
        Checks.due("first row of the alternate screen", Checks.row(t, 0), "cccccccccccccccc>");
        Checks.due("its last row", Checks.row(t, 7), "jjjjjjjjjjjjjjjj");
        Checks.due("scrollback stays", Checks.row(t, -1), "VVVVVVVVVVVVVVVV>");
        t.leaveAlt();
        Checks.due("main screen stays", Checks.row(t, 7), "DDDDDDDDDDDDDDDD");
    }

    private static void alternateScreen() {
        ReflowTerminal t = new ReflowTerminal(4, 2, 2);
        Checks.type(t, "AB");
        t.enterAlt();
        Checks.type(t, "CDEFGHIJKL");
        Checks.due("alternate", Checks.picture(t) + " " + Checks.cursor(t), "^GHIJ>|KL.. 1,2");
        Checks.due("main lines", Checks.lines(t), "AB@0,2");
        t.leaveAlt();
        Checks.due("main", Checks.picture(t) + " " + Checks.cursor(t), "^AB..|.... 0,2");
    }

    public static void main(String[] args) {
        printing();
        refusals();
        carriageReturn();
        lineFeeds();
        backspaceAndTab();
        scrollback();
        regions();
        fullScrollbackWithRegion();
        greatestSizes();
        alternateScreen();
        Checks.finish();
    }
}
