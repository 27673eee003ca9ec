/** Promise 3: eraseInLine. */
public final class EraseTest {
    private static ReflowTerminal filled() {
        ReflowTerminal t = new ReflowTerminal(4, 3, 2);
        Checks.type(t, "ABCDEFGHIJKL");
        return t;
    }

    private static void erased(int row, int col, int mode, String want) {
        ReflowTerminal t = filled();
        t.setCursor(row, col);
        Checks.due("eraseInLine(" + mode + ")", t.eraseInLine(mode), true);
        Checks.due("mode " + mode + " at " + row + "," + col, Checks.picture(t), want);
        Checks.due("cursor stays", Checks.cursor(t), row + "," + col);
    }

    private static void modes() {
        erased(1, 2, ReflowTerminal.EL_TO_END, "^ABCD>|EF..|IJKL");
        erased(1, 0, ReflowTerminal.EL_TO_END, "^ABCD>|....|IJKL");
        erased(1, 3, ReflowTerminal.EL_TO_END, "^ABCD>|EFG.|IJKL");
        erased(1, 2, ReflowTerminal.EL_TO_START, "^ABCD>|...H>|IJKL");
        erased(1, 0, ReflowTerminal.EL_TO_START, "^ABCD>|.FGH>|IJKL");
        erased(1, 3, ReflowTerminal.EL_TO_START, "^ABCD>|....>|IJKL");
        erased(0, 1, ReflowTerminal.EL_ALL, "^....|EFGH>|IJKL");
    }

    private static void pendingGoes() {
        for (int mode = 0; mode <= 2; mode++) {
            ReflowTerminal t = filled();
            Checks.due("pending before", Checks.cursor(t), "2,3p");
            t.eraseInLine(mode);
            Checks.due("pending after mode " + mode, Checks.cursor(t), "2,3");
        }
    }

    private static void refusals() {
        int[] modes = {-1, 3, 4, 256, Integer.MIN_VALUE, Integer.MAX_VALUE};
        ReflowTerminal t = filled();
        for (int mode : modes) {
            String before = Checks.state(t);
            Checks.due("eraseInLine(" + mode + ")", t.eraseInLine(mode), false);
            Checks.due("state after mode " + mode, Checks.state(t), before);
        }
    }

    private static void otherRowsAndScreens() {
        ReflowTerminal t = filled();
        Checks.type(t, "MN");
        t.setScrollRegion(0, 1);
        t.eraseInLine(ReflowTerminal.EL_ALL);
        Checks.due("scrollback stays", Checks.picture(t), "ABCD>|^....|IJKL>|MN..");
        Checks.due("region stays", Checks.region(t), "0..1");
        String main = Checks.picture(t);
        t.enterAlt();
        Checks.type(t, "WXYZV");
        t.setCursor(0, 1);
        t.eraseInLine(ReflowTerminal.EL_TO_END);
        Checks.due("alternate row", Checks.picture(t), "ABCD>|^W...|V...|....");
        Checks.due("mode stays", t.info(ReflowTerminal.INFO_ALT), 1);
        t.leaveAlt();
        Checks.due("main screen stays", Checks.picture(t), main);
    }

    public static void main(String[] args) {
        modes();
        pendingGoes();
        refusals();
        otherRowsAndScreens();
        Checks.finish();
    }
}
