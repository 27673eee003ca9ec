/** Promise 8: cell and wrapped. */
public final class CellTest {
    private static ReflowTerminal used() {
        ReflowTerminal t = new ReflowTerminal(4, 2, 3);
        Checks.type(t, "ABCDEF\r\nGHIJKL");
        return t;
    }

    private static void rows() {
        ReflowTerminal t = used();
        Checks.due("picture", Checks.picture(t), "ABCD>|EF..|^GHIJ>|KL..");
        Checks.due("oldest", t.cell(-2, 0), (int) 'A');
        Checks.due("newest", t.cell(-1, 1), (int) 'F');
        Checks.due("first of the screen", t.cell(0, 0), (int) 'G');
        Checks.due("last of the screen", t.cell(1, 3), 32);
        Checks.due("wrapped(-2)", t.wrapped(-2), true);
        Checks.due("wrapped(-1)", t.wrapped(-1), false);
        Checks.due("wrapped(0)", t.wrapped(0), true);
        Checks.due("wrapped(1)", t.wrapped(1), false);
    }

    private static void outOfRange(ReflowTerminal t, int row, int col) {
        String before = Checks.state(t);
        Checks.due("cell(" + row + ", " + col + ")", t.cell(row, col), -1);
        Checks.due("state after", Checks.state(t), before);
    }

    private static void ranges() {
        ReflowTerminal t = used();
        int[] wrongRows = {-3, 2, 3, 8, -17, Integer.MIN_VALUE, Integer.MAX_VALUE};
        int[] wrongCols = {-1, 4, 5, 16, Integer.MIN_VALUE, Integer.MAX_VALUE};
        for (int row : wrongRows) {
            outOfRange(t, row, 0);
            Checks.due("wrapped(" + row + ")", t.wrapped(row), false);
            for (int col : wrongCols) {
                outOfRange(t, row, col);
            }
        }
        for (int col : wrongCols) {
            outOfRange(t, 0, col);
            outOfRange(t, -1, col);
        }
        outOfRange(new ReflowTerminal(4, 2, 3), -1, 0);
    }

    private static void alternateMode() {
        ReflowTerminal t = used();
        t.enterAlt();
        Checks.type(t, "wxyz!");
        Checks.due("alternate screen with the scrollback", Checks.picture(t), "ABCD>|EF..|^wxyz>|!...");
        outOfRange(t, -3, 0);
        outOfRange(t, 2, 0);
    }

    private static void rangesFollowResize() {
        ReflowTerminal t = used();
        t.resize(6, 3);
        Checks.due("picture", Checks.picture(t), "^ABCDEF|GHIJKL>|......");
        outOfRange(t, -1, 0);
        Checks.due("cell(2, 5)", t.cell(2, 5), 32);
        outOfRange(t, 2, 6);
        outOfRange(t, 3, 0);
    }

    public static void main(String[] args) {
        rows();
        ranges();
        alternateMode();
        rangesFollowResize();
        Checks.finish();
    }
}
