/** Promise 11: lineLength and lineChar. */
public final class LinesTest {
    private static final int LOW = Integer.MIN_VALUE;
    private static final int HIGH = Integer.MAX_VALUE;

    // Lines 0 to 3: "ABCDEF" over two rows, an empty one, " G", "H"; below them rows that are no lines.
    private static ReflowTerminal inMain() {
        ReflowTerminal t = Checks.drawn("ABCD>|^EF..|....|.G..|H...|....|....", 2, 0, 0);
        Checks.pendingIn(t, 3);
        return t;
    }

    private static ReflowTerminal inAlternate() {
        ReflowTerminal t = inMain();
        t.enterAlt();
        Checks.type(t, "uvwxyz");
        return t;
    }

    private static void lengths() {
        int[] due = {6, 0, 2, 1};
        for (int i = 0; i < due.length; i++) {
            Checks.due("lineLength(" + i + ")", inMain().lineLength(i), due[i]);
        }
    }

    private static void wrongLines() {
        for (int i : new int[] {-1, 4, -2, 5, 6, 7, 8, 24, 25, LOW, LOW + 1, HIGH - 1, HIGH}) {
            Checks.due("lineLength(" + i + ")", inMain().lineLength(i), -1);
            Checks.due("lineLength(" + i + ") in alternate mode", inAlternate().lineLength(i), -1);
        }
    }

    private static void removedLines() {
        ReflowTerminal t = Checks.drawn("^A...|....|....", 0, 1, 0);
        Checks.due("the empty cursor line", t.lineLength(1), 0);
        Checks.due("the empty line behind it", t.lineLength(2), -1);
        t.setCursor(0, 0);
        Checks.due("with the cursor above", t.lineLength(1), -1);
    }

    private static void nothingBehindTheLastRow() {
        ReflowTerminal t = Checks.typed(4, 2, 0, "A\r\nB");
        Checks.due("lineLength(2)", t.lineLength(2), -1);
        Checks.due("lineChar(2, 0)", t.lineChar(2, 0), -1);
        Checks.due("lineChar(3, 0)", t.lineChar(3, 0), -1);
    }

    private static void characters() {
        String text = "ABCDEF";
        for (int j = 0; j < text.length(); j++) {
            Checks.due("lineChar(0, " + j + ")", inMain().lineChar(0, j), (int) text.charAt(j));
        }
        Checks.due("a blank before the text", inMain().lineChar(2, 0), 32);
        Checks.due("behind the blank", inMain().lineChar(2, 1), (int) 'G');
        Checks.due("the only character", inMain().lineChar(3, 0), (int) 'H');
    }

    private static void wrongLineOfAChar() {
        for (int i : new int[] {-1, 4, -2, 5, 6, 7, 8, 24, LOW, HIGH}) {
            for (int j : new int[] {-1, 0, 1, i, LOW, HIGH}) {
                Checks.due("lineChar(" + i + ", " + j + ")", inMain().lineChar(i, j), -1);
            }
        }
    }

    private static void wrongPlaces() {
        int[] lengths = {6, 0, 2, 1};
        for (int i = 0; i < lengths.length; i++) {
            for (int j : new int[] {-1, lengths[i], lengths[i] + 1, 8, 16, 400, LOW, LOW + 1, HIGH}) {
                Checks.due("lineChar(" + i + ", " + j + ")", inMain().lineChar(i, j), -1);
                Checks.due("lineChar(" + i + ", " + j + ") in alternate mode", inAlternate().lineChar(i, j), -1);
            }
        }
    }

    private static void longestLine() {
        ReflowTerminal t = new ReflowTerminal(16, 8, 16);
        for (int i = 0; i < 24 * 16; i++) {
            t.put(33 + i % 90);
        }
        Checks.due("length", t.lineLength(0), 384);
        Checks.due("last character", t.lineChar(0, 383), 33 + 383 % 90);
        Checks.due("behind it", t.lineChar(0, 384), -1);
        Checks.due("line 1", t.lineLength(1), -1);
    }

    private static void eitherMode() {
        ReflowTerminal t = inAlternate();
        Checks.due("lines", Checks.lines(t), "ABCDEF||.G|H@3,3");
        Checks.due("length of line 0", t.lineLength(0), 6);
        Checks.due("its first character", t.lineChar(0, 0), (int) 'A');
    }

    private static void nothingChanges() {
        for (int i : new int[] {LOW, -1, 0, 1, 3, 4, HIGH}) {
            Checks.changesNothing("lineLength(" + i + ")", LinesTest::inMain, t -> t.lineLength(i));
            Checks.changesNothing("lineLength(" + i + ")", LinesTest::inAlternate, t -> t.lineLength(i));
            Checks.changesNothing("lineChar(" + i + ", 0)", LinesTest::inMain, t -> t.lineChar(i, 0));
            Checks.changesNothing("lineChar(0, " + i + ")", LinesTest::inMain, t -> t.lineChar(0, i));
            Checks.changesNothing("lineChar(" + i + ", 0)", LinesTest::inAlternate, t -> t.lineChar(i, 0));
            Checks.changesNothing("lineChar(0, " + i + ")", LinesTest::inAlternate, t -> t.lineChar(0, i));
        }
    }

    public static void main(String[] args) {
        Checks.sentence("answers the length of the text of logical line i", LinesTest::lengths);
        Checks.sentence("-1 unless 0 <= i < info(INFO_LINES)", LinesTest::wrongLines);
        Checks.sentence("-1 unless 0 <= i < info(INFO_LINES) [lines that were removed]", LinesTest::removedLines);
        Checks.sentence("-1 unless 0 <= i < info(INFO_LINES) [behind the last row]",
            LinesTest::nothingBehindTheLastRow);
        Checks.sentence("answers character j of the text of logical line i", LinesTest::characters);
        Checks.sentence("-1 unless 0 <= i < info(INFO_LINES) [lineChar]", LinesTest::wrongLineOfAChar);
        Checks.sentence("and 0 <= j < lineLength(i)", LinesTest::wrongPlaces);
        Checks.sentence("answers the length of the text of logical line i [the longest]", LinesTest::longestLine);
        Checks.sentence("Both read the main buffer in either mode", LinesTest::eitherMode);
        Checks.sentence("and change nothing", LinesTest::nothingChanges);
        Checks.finish();
    }
}
