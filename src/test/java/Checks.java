import java.util.StringJoiner;

/** Counts the answers that are not as due, and draws a terminal as text for the tests. */
final class Checks {
    private static int wrong = 0;

    private Checks() {
    }

    static void due(String what, Object got, Object want) {
        if (!want.equals(got)) {
            wrong++;
            System.out.println(what + ": answered " + got + ", due is " + want);
        }
    }

    static void finish() {
        System.out.println(wrong == 0 ? "all answers are as due" : wrong + " answers are not as due");
        if (wrong != 0) {
            System.exit(1);
        }
    }

    static void type(ReflowTerminal t, String text) {
        for (int i = 0; i < text.length(); i++) {
            due("put(" + (int) text.charAt(i) + ")", t.put(text.charAt(i)), true);
        }
    }

    /** The cells of one row, '.' for BLANK, with '>' behind them if the row is wrapped. */
    static String row(ReflowTerminal t, int r) {
        StringBuilder text = new StringBuilder();
        for (int c = 0; c < t.info(ReflowTerminal.INFO_WIDTH); c++) {
            int code = t.cell(r, c);
            text.append(code == ReflowTerminal.BLANK ? '.' : (char) code);
        }
        return text.append(t.wrapped(r) ? ">" : "").toString();
    }

    /** The scrollback rows, oldest first, then '^' and the rows of the active screen. */
    static String picture(ReflowTerminal t) {
        StringBuilder text = new StringBuilder();
        for (int r = -t.info(ReflowTerminal.INFO_SCROLLBACK); r < 0; r++) {
            text.append(row(t, r)).append('|');
        }
        StringJoiner screen = new StringJoiner("|");
        for (int r = 0; r < t.info(ReflowTerminal.INFO_HEIGHT); r++) {
            screen.add(row(t, r));
        }
        return text.append('^').append(screen).toString();
    }

    /** The active cursor as "row,column", with 'p' behind it if it is pending. */
    static String cursor(ReflowTerminal t) {
        return t.cursorRow() + "," + t.cursorCol() + (t.info(ReflowTerminal.INFO_PENDING) == 1 ? "p" : "");
    }

    /** The logical lines, '.' for BLANK, then '@', the cursor line and its offset. */
    static String lines(ReflowTerminal t) {
        StringJoiner all = new StringJoiner("|");
        for (int i = 0; i < t.info(ReflowTerminal.INFO_LINES); i++) {
            StringBuilder text = new StringBuilder();
            for (int j = 0; j < t.lineLength(i); j++) {
                int code = t.lineChar(i, j);
                text.append(code == ReflowTerminal.BLANK ? '.' : (char) code);
            }
            all.add(text);
        }
        return all + "@" + t.info(ReflowTerminal.INFO_CURSOR_LINE) + "," + t.info(ReflowTerminal.INFO_CURSOR_OFFSET);
    }

    static String region(ReflowTerminal t) {
        return t.info(ReflowTerminal.INFO_REGION_TOP) + ".." + t.info(ReflowTerminal.INFO_REGION_BOTTOM);
    }

    static String mainCursor(ReflowTerminal t) {
        return t.info(ReflowTerminal.INFO_MAIN_ROW) + "," + t.info(ReflowTerminal.INFO_MAIN_COL);
    }

    /** Everything that the queries tell at this moment. */
    static String state(ReflowTerminal t) {
        StringJoiner infos = new StringJoiner(",");
        for (int kind = 0; kind <= ReflowTerminal.INFO_MAIN_COL; kind++) {
            infos.add("" + t.info(kind));
        }
        return picture(t) + " " + cursor(t) + " " + lines(t) + " " + infos;
    }
}
