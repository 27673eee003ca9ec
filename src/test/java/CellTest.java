/** Promise 8: cell and wrapped. */
public final class CellTest {
    private static final int LOW = Integer.MIN_VALUE;
    private static final int HIGH = Integer.MAX_VALUE;
    private static final String ROWS = "ABCD>|EFGH|IJKL>|^MNOP>|QRST";

    private static ReflowTerminal inMain() {
        ReflowTerminal t = Checks.drawn(ROWS, 4, 0, 0);
        Checks.pendingIn(t, 1);
        return t;
    }

    private static ReflowTerminal inAlternate() {
        ReflowTerminal t = inMain();
        t.enterAlt();
        Checks.type(t, "wxyz!");
        return t;
    }

    private static void cells(ReflowTerminal t, int row, String want) {
        for (int col = 0; col < 4; col++) {
            Checks.due("cell(" + row + ", " + col + ")", t.cell(row, col), (int) want.charAt(col));
        }
    }

    private static void outside(int row, int col) {
        Checks.due("cell(" + row + ", " + col + ")", inMain().cell(row, col), -1);
        Checks.due("cell(" + row + ", " + col + ") in alternate mode", inAlternate().cell(row, col), -1);
    }

    private static void scrollbackRows() {
        ReflowTerminal t = inMain();
        cells(t, -3, "ABCD");
        cells(t, -2, "EFGH");
        cells(t, -1, "IJKL");
    }

    private static void scrollbackRowsInAlternateMode() {
        ReflowTerminal t = inAlternate();
        cells(t, -3, "ABCD");
        cells(t, -1, "IJKL");
        Checks.due("flags", t.wrapped(-3) + " " + t.wrapped(-2) + " " + t.wrapped(-1), "true false true");
    }

    private static void screenRows() {
        cells(inMain(), 0, "MNOP");
        cells(inMain(), 1, "QRST");
        cells(inAlternate(), 0, "wxyz");
        cells(inAlternate(), 1, "!   ");
    }

    private static void columns() {
        for (int row = -3; row < 2; row++) {
            for (int col : new int[] {-1, 4, -2, 5, 15, 16, 17, LOW, HIGH}) {
                outside(row, col);
            }
        }
    }

    private static void rows() {
        for (int row : new int[] {-4, 2, -5, 3, 7, 8, -16, -17, 100, LOW, LOW + 1, HIGH, HIGH - 1}) {
            outside(row, 0);
            outside(row, 3);
            outside(row, -1);
            outside(row, 4);
        }
    }

    private static void noScrollback() {
        for (int capacity : new int[] {0, 16}) {
            ReflowTerminal t = Checks.typed(4, 2, capacity, "ABCDE");
            for (int row : new int[] {-1, -2, -16, LOW}) {
                Checks.due("cell(" + row + ", 0)", t.cell(row, 0), -1);
                Checks.due("wrapped(" + row + ")", t.wrapped(row), false);
            }
        }
    }

    private static void greatestSizes() {
        ReflowTerminal t = new ReflowTerminal(16, 8, 16);
        for (int i = 0; i < 24 * 16; i++) {
            t.put('A' + i / 16);
        }
        Checks.due("oldest row", t.cell(-16, 0) + " " + t.cell(-16, 15) + " " + t.wrapped(-16), "65 65 true");
        Checks.due("newest scrollback row", t.cell(-1, 15) + " " + t.wrapped(-1), "80 true");
        Checks.due("last row", t.cell(7, 15) + " " + t.wrapped(7), "88 false");
        Checks.due("row -17", t.cell(-17, 0) + " " + t.wrapped(-17), "-1 false");
        Checks.due("row 8", t.cell(8, 0) + " " + t.wrapped(8), "-1 false");
        Checks.due("column 16", t.cell(7, 16) + " " + t.cell(-16, 16), "-1 -1");
    }

    private static void sizesOfNow() {
        ReflowTerminal t = inMain();
        t.resize(6, 4);
        Checks.due("after growing", Checks.picture(t), "^ABCDEF>|GH....|IJKLMN>|OPQRST");
        Checks.due("row -1", t.cell(-1, 0), -1);
        Checks.due("row 4", t.cell(4, 0), -1);
        Checks.due("column 5", t.cell(3, 5), (int) 'T');
        Checks.due("column 6", t.cell(3, 6), -1);
        t.resize(4, 2);
        Checks.due("after shrinking", Checks.picture(t), ROWS);
        Checks.due("row 2", t.cell(2, 0) + " " + t.wrapped(2), "-1 false");
        Checks.due("column 4", t.cell(0, 4), -1);
        Checks.due("row -4", t.cell(-4, 0) + " " + t.wrapped(-4), "-1 false");
    }

    private static void flags() {
        ReflowTerminal t = inMain();
        boolean[] due = {true, false, true, true, false};
        for (int row = -3; row < 2; row++) {
            Checks.due("wrapped(" + row + ")", t.wrapped(row), due[row + 3]);
        }
        Checks.due("wrapped(0) in alternate mode", inAlternate().wrapped(0), true);
        Checks.due("wrapped(1) in alternate mode", inAlternate().wrapped(1), false);
    }

    private static void flagsOutside() {
        ReflowTerminal t = Checks.drawn("ABCD>|EFGH>|^IJKL>|MNOP>|QRST>", 2, 0, 0);
        for (int row : new int[] {-3, 3, -4, 4, 7, 8, -16, -17, LOW, HIGH}) {
            Checks.due("wrapped(" + row + ")", t.wrapped(row), false);
        }
        t.resize(4, 2);
        for (int row : new int[] {-3, 2, 3, 4}) {
            Checks.due("wrapped(" + row + ") at height 2", t.wrapped(row), false);
        }
    }

    private static void nothingChanges() {
        for (int row : new int[] {-17, -4, -3, -1, 0, 1, 2, LOW, HIGH}) {
            Checks.changesNothing("cell(" + row + ", 0)", CellTest::inMain, t -> t.cell(row, 0));
            Checks.changesNothing("cell(" + row + ", 0)", CellTest::inAlternate, t -> t.cell(row, 0));
            Checks.changesNothing("cell(0, " + row + ")", CellTest::inMain, t -> t.cell(0, row));
            Checks.changesNothing("cell(0, " + row + ")", CellTest::inAlternate, t -> t.cell(0, row));
            Checks.changesNothing("wrapped(" + row + ")", CellTest::inMain, t -> t.wrapped(row));
            Checks.changesNothing("wrapped(" + row + ")", CellTest::inAlternate, t -> t.wrapped(row));
        }
    }

    public static void main(String[] args) {
        Checks.sentence("row in -n..-1: scrollback row n+row (-1 newest, -n oldest)", CellTest::scrollbackRows);
        Checks.sentence("in either mode", CellTest::scrollbackRowsInAlternateMode);
        Checks.sentence("row in 0..H-1: row of the active screen", CellTest::screenRows);
        Checks.sentence("col must be in 0..W-1", CellTest::columns);
        Checks.sentence("Any other row or col: -1.", CellTest::rows);
        Checks.sentence("With n = 0 no negative row is valid.", CellTest::noScrollback);
        Checks.sentence("row in -n..-1 [at the greatest sizes]", CellTest::greatestSizes);
        Checks.sentence("col must be in 0..W-1. Any other row or col: -1. [with the n, H and W of now]",
            CellTest::sizesOfNow);
        Checks.sentence("answers the wrap flag of a row, addressed as in cell", CellTest::flags);
        Checks.sentence("Row out of range: false.", CellTest::flagsOutside);
        Checks.sentence("Neither changes anything.", CellTest::nothingChanges);
        Checks.finish();
    }
}
