/** Promise 11: lineLength and lineChar, over the LOGICAL LINES. */
public final class LinesTest {
    private static void texts() {
        ReflowTerminal t = new ReflowTerminal(4, 4, 4);
        Checks.type(t, "ABCDEF\r\n\r\n G ");
        Checks.due("lines", Checks.lines(t), "ABCDEF||.G@2,3");
        Checks.due("length with inner blanks", t.lineLength(2), 2);
        Checks.due("empty line", t.lineLength(1), 0);
        Checks.due("inner blank", t.lineChar(2, 0), 32);
        Checks.type(t, "\r\nHIJKLMN");
        Checks.due("over the scrollback", Checks.picture(t), "ABCD>|EF..|^....|.G..|HIJK>|LMN.");
        Checks.due("lines", Checks.lines(t), "ABCDEF||.G|HIJKLMN@3,7");
    }

    private static void ranges() {
        ReflowTerminal t = new ReflowTerminal(4, 4, 4);
        Checks.type(t, "ABCDEF\r\nG");
        int[] wrongLines = {-1, 2, 3, Integer.MIN_VALUE, Integer.MAX_VALUE};
        int[] wrongPlaces = {-1, 6, 7, 8, Integer.MIN_VALUE, Integer.MAX_VALUE};
        String before = Checks.state(t);
        for (int i : wrongLines) {
            Checks.due("lineLength(" + i + ")", t.lineLength(i), -1);
            Checks.due("lineChar(" + i + ", 0)", t.lineChar(i, 0), -1);
            Checks.due("lineChar(" + i + ", " + i + ")", t.lineChar(i, i), -1);
        }
        for (int j : wrongPlaces) {
            Checks.due("lineChar(0, " + j + ")", t.lineChar(0, j), -1);
        }
        Checks.due("last character", t.lineChar(0, 5), (int) 'F');
        Checks.due("only character", t.lineChar(1, 0), (int) 'G');
        Checks.due("behind it", t.lineChar(1, 1), -1);
        Checks.due("asking changes nothing", Checks.state(t), before);
    }

    private static void nothingBehindTheLastRow() {
        ReflowTerminal t = new ReflowTerminal(4, 2, 0);
        Checks.type(t, "A\r\nB");
        Checks.due("lines", t.info(ReflowTerminal.INFO_LINES), 2);
        Checks.due("lineLength(2)", t.lineLength(2), -1);
        Checks.due("lineChar(2, 0)", t.lineChar(2, 0), -1);
        Checks.due("lineChar(3, 0)", t.lineChar(3, 0), -1);
    }

    private static void emptyLinesAtTheEnd() {
        ReflowTerminal t = new ReflowTerminal(4, 4, 4);
        Checks.type(t, "A\n\n");
        Checks.due("down to the cursor's line", Checks.lines(t), "A||@2,1");
        t.setCursor(0, 3);
        Checks.due("cursor at the top", Checks.lines(t), "A@0,3");
        t.setCursor(3, 0);
        Checks.due("cursor at the end", Checks.lines(t), "A|||@3,0");
        t.setCursor(2, 1);
        Checks.type(t, "B");
        t.setCursor(1, 0);
        Checks.due("text below the cursor", Checks.lines(t), "A||.B@1,0");
        Checks.due("first line that was removed", t.lineLength(3), -1);
    }

    private static void blankRowsInsideALine() {
        ReflowTerminal t = new ReflowTerminal(4, 4, 0);
        Checks.type(t, "ABCDEFGHI");
        t.setCursor(1, 3);
        t.eraseInLine(ReflowTerminal.EL_TO_START);
        Checks.due("a blank wrapped row", Checks.lines(t), "ABCD....I@0,7");
        t.setCursor(2, 2);
        t.eraseInLine(ReflowTerminal.EL_TO_START);
        Checks.due("blank rows at its end", Checks.lines(t), "ABCD@0,10");
        t.setCursor(3, 1);
        Checks.due("the cursor in the next line", Checks.lines(t), "ABCD|@1,1");
    }

    private static void emptyWrappedLineBelowTheCursor() {
        ReflowTerminal t = new ReflowTerminal(4, 4, 0);
        Checks.type(t, "A\r\nBCDEF");
        for (int row = 1; row <= 2; row++) {
            t.setCursor(row, 3);
            t.eraseInLine(ReflowTerminal.EL_TO_START);
        }
        t.setCursor(0, 0);
        Checks.due("picture", Checks.picture(t), "^A...|....>|....|....");
        Checks.due("it is removed as one", Checks.lines(t), "A@0,0");
        t.setCursor(2, 1);
        Checks.due("it stays as one", Checks.lines(t), "A|@1,5");
    }

    private static void flagOfTheLastRow() {
        ReflowTerminal t = new ReflowTerminal(4, 3, 0);
        t.setScrollRegion(0, 1);
        t.setCursor(2, 0);
        Checks.type(t, "ABCDE");
        Checks.due("picture", Checks.picture(t), "^....|....|EBCD>");
        Checks.due("it is not asked", Checks.lines(t), "||EBCD@2,1");
    }

    private static void lineCutAtTheFront() {
        ReflowTerminal t = new ReflowTerminal(4, 2, 1);
        Checks.type(t, "ABCDEFGHIJKLM\r\nN");
        Checks.due("picture", Checks.picture(t), "IJKL>|^M...|N...");
        Checks.due("the rest of the line", Checks.lines(t), "IJKLM|N@1,1");
    }

    private static void alternateMode() {
        ReflowTerminal t = new ReflowTerminal(4, 2, 2);
        Checks.type(t, "ABCDE\r\nF");
        t.enterAlt();
        Checks.type(t, "uvwxyz");
        Checks.due("the main buffer's lines", Checks.lines(t), "ABCDE|F@1,1");
    }

    public static void main(String[] args) {
        texts();
        ranges();
        nothingBehindTheLastRow();
        emptyLinesAtTheEnd();
        blankRowsInsideALine();
        emptyWrappedLineBelowTheCursor();
        flagOfTheLastRow();
        lineCutAtTheFront();
        alternateMode();
        Checks.finish();
    }
}
