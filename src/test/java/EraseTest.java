/** Promise 3: eraseInLine. */
public final class EraseTest {
    private static final int[] MODES = {ReflowTerminal.EL_TO_END, ReflowTerminal.EL_TO_START, ReflowTerminal.EL_ALL};
    private static final String ROWS = "ZZZZ>|^ABCD>|EFGH>|IJKL";

    private static void erased(int row, int col, int mode, String want) {
        ReflowTerminal t = Checks.drawn(ROWS, 2, row, col);
        Checks.due("eraseInLine(" + mode + ")", t.eraseInLine(mode), true);
        Checks.due("mode " + mode + " at " + row + "," + col, Checks.shown(t), want + " " + row + "," + col);
    }

    private static void toEnd() {
        erased(1, 0, ReflowTerminal.EL_TO_END, "ZZZZ>|^ABCD>|....|IJKL");
        erased(1, 1, ReflowTerminal.EL_TO_END, "ZZZZ>|^ABCD>|E...|IJKL");
        erased(1, 3, ReflowTerminal.EL_TO_END, "ZZZZ>|^ABCD>|EFG.|IJKL");
        erased(0, 2, ReflowTerminal.EL_TO_END, "ZZZZ>|^AB..|EFGH>|IJKL");
        erased(2, 2, ReflowTerminal.EL_TO_END, "ZZZZ>|^ABCD>|EFGH>|IJ..");
    }

    private static void toStart() {
        erased(1, 0, ReflowTerminal.EL_TO_START, "ZZZZ>|^ABCD>|.FGH>|IJKL");
        erased(1, 2, ReflowTerminal.EL_TO_START, "ZZZZ>|^ABCD>|...H>|IJKL");
        erased(1, 3, ReflowTerminal.EL_TO_START, "ZZZZ>|^ABCD>|....>|IJKL");
        erased(2, 1, ReflowTerminal.EL_TO_START, "ZZZZ>|^ABCD>|EFGH>|..KL");
    }

    private static void all() {
        erased(1, 0, ReflowTerminal.EL_ALL, "ZZZZ>|^ABCD>|....|IJKL");
        erased(0, 2, ReflowTerminal.EL_ALL, "ZZZZ>|^....|EFGH>|IJKL");
        erased(2, 3, ReflowTerminal.EL_ALL, "ZZZZ>|^ABCD>|EFGH>|....");
    }

    private static void widestRow() {
        for (int mode : MODES) {
            ReflowTerminal t = Checks.drawn("^ABCDEFGHIJKLMNOP|ABCDEFGHIJKLMNOP", 0, 0, mode == 1 ? 15 : 0);
            t.eraseInLine(mode);
            Checks.due("mode " + mode, Checks.picture(t), "^................|ABCDEFGHIJKLMNOP");
        }
    }

    private static void pendingGoes() {
        String[] due = {"ZZZZ>|^ABCD>|EFG.|IJKL 1,3", "ZZZZ>|^ABCD>|....>|IJKL 1,3", "ZZZZ>|^ABCD>|....|IJKL 1,3"};
        for (int mode : MODES) {
            ReflowTerminal t = Checks.drawn(ROWS, 2, 0, 0);
            Checks.pendingIn(t, 1);
            Checks.due("eraseInLine(" + mode + ")", t.eraseInLine(mode), true);
            Checks.due("mode " + mode + " on a pending cursor", Checks.shown(t), due[mode]);
        }
    }

    private static void flagThatIsFalse() {
        for (int mode : MODES) {
            ReflowTerminal t = Checks.drawn(ROWS, 2, 2, 1);
            t.eraseInLine(mode);
            Checks.due("flag after mode " + mode, t.wrapped(2), false);
        }
    }

    private static void flagOfTheLastRow() {
        boolean[] due = {false, true, false};
        for (int mode : MODES) {
            ReflowTerminal t = Checks.drawn("^ABCD|EFGH|IJKL>", 2, 2, 1);
            t.eraseInLine(mode);
            Checks.due("flag after mode " + mode, t.wrapped(2), due[mode]);
        }
    }

    private static void blankRow() {
        for (int mode : MODES) {
            ReflowTerminal t = new ReflowTerminal(4, 2, 0);
            Checks.due("eraseInLine(" + mode + ")", t.eraseInLine(mode), true);
            Checks.due("mode " + mode + " on a blank screen", Checks.shown(t), "^....|.... 0,0");
        }
    }

    private static void otherScreen() {
        for (int mode : MODES) {
            ReflowTerminal t = Checks.drawn(ROWS, 2, 1, 2);
            t.enterAlt();
            Checks.type(t, "uvwxyz");
            t.setCursor(0, 1);
            t.eraseInLine(mode);
            String[] row = {"u...", "..wx>", "...."};
            Checks.due("alternate row, mode " + mode, Checks.shown(t), "ZZZZ>|^" + row[mode] + "|yz..|.... 0,1");
            t.leaveAlt();
            Checks.due("main screen after mode " + mode, Checks.shown(t), ROWS + " 1,2");
        }
    }

    private static void mainScreenLeavesTheScrollback() {
        ReflowTerminal t = Checks.drawn(ROWS, 2, 0, 3);
        t.eraseInLine(ReflowTerminal.EL_ALL);
        Checks.due("scrollback", Checks.row(t, -1), "ZZZZ>");
        Checks.due("its rows", t.info(ReflowTerminal.INFO_SCROLLBACK), 1);
    }

    private static void regionAndMode() {
        for (int mode : MODES) {
            ReflowTerminal t = Checks.drawn(ROWS, 2, 0, 0);
            Checks.within(t, 0, 1, 2, 2);
            t.eraseInLine(mode);
            Checks.due("region after mode " + mode, Checks.region(t), "0..1");
            Checks.due("mode after it", t.info(ReflowTerminal.INFO_ALT), 0);
            t.enterAlt();
            Checks.within(t, 1, 2, 0, 0);
            t.eraseInLine(mode);
            Checks.due("alternate region after mode " + mode, Checks.region(t), "1..2");
            Checks.due("alternate mode after it", t.info(ReflowTerminal.INFO_ALT), 1);
        }
    }

    private static ReflowTerminal pendingInMain() {
        ReflowTerminal t = Checks.drawn(ROWS, 2, 0, 0);
        Checks.within(t, 0, 1, 0, 0);
        Checks.pendingIn(t, 1);
        return t;
    }

    private static ReflowTerminal pendingInAlternate() {
        ReflowTerminal t = pendingInMain();
        t.enterAlt();
        Checks.type(t, "uvwxyz12");
        return t;
    }

    private static void refusals() {
        int[] modes = {-1, 3, 4, -2, 32, 256, 258, Integer.MIN_VALUE, Integer.MIN_VALUE + 2, Integer.MAX_VALUE};
        for (int mode : modes) {
            Checks.refused("eraseInLine(" + mode + ")", EraseTest::pendingInMain, t -> t.eraseInLine(mode));
            Checks.refused("eraseInLine(" + mode + ")", EraseTest::pendingInAlternate, t -> t.eraseInLine(mode));
        }
    }

    public static void main(String[] args) {
        Checks.sentence("EL_TO_END: cells x..W-1 become BLANK and the row's flag becomes false.", EraseTest::toEnd);
        Checks.sentence("EL_TO_START: cells 0..x (inclusive) become BLANK, flag unchanged.", EraseTest::toStart);
        Checks.sentence("EL_ALL: all cells BLANK, flag false.", EraseTest::all);
        Checks.sentence("cells x..W-1 become BLANK [and in the other modes, in the widest row]", EraseTest::widestRow);
        Checks.sentence("In each of these pending = false, the cursor position is unchanged, and the answer is true.",
            EraseTest::pendingGoes);
        Checks.sentence("flag unchanged [a flag that is false]", EraseTest::flagThatIsFalse);
        Checks.sentence("flag unchanged [a flag that is true, in the last row]", EraseTest::flagOfTheLastRow);
        Checks.sentence("the answer is true [on a blank row]", EraseTest::blankRow);
        Checks.sentence("Other rows, the other screen", EraseTest::otherScreen);
        Checks.sentence("the scrollback", EraseTest::mainScreenLeavesTheScrollback);
        Checks.sentence("the region and the mode do not change", EraseTest::regionAndMode);
        Checks.sentence("Any other mode value: refused, answers false, nothing changes.", EraseTest::refusals);
        Checks.finish();
    }
}
