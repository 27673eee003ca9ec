import java.util.List;
import java.util.StringJoiner;
import java.util.function.Consumer;
import java.util.function.Predicate;
import java.util.function.Supplier;

/** Counts the answers that are not as due under the sentence they break, and draws terminals as text. */
final class Checks {
    // What the queries can't tell at once, such as the saved pending or the main screen in alternate mode, they tell
    // after one of these. No query comes before it, since a query that changes something would change both objects.
    private static final List<Consumer<ReflowTerminal>> LATER = List.of(
        t -> { },
        t -> t.put('~'),
        t -> t.put('\n'),
        ReflowTerminal::enterAlt,
        ReflowTerminal::leaveAlt,
        t -> {
            t.leaveAlt();
            t.put('~');
        },
        t -> {
            t.resize(16, 8);
            t.leaveAlt();
        });

    private static String sentence = "";
    private static int sentences = 0;
    private static int answers = 0;
    private static int wrong = 0;

    private Checks() {
    }

    /**
     * Runs the test of one sentence, given in the document's own words; what stands in [] behind them says which case of
     * it is meant. A test that looks at no answer counts as wrong.
     */
    static void sentence(String words, Runnable test) {
        sentence = words;
        sentences++;
        int before = answers;
        try {
            test.run();
        } catch (RuntimeException thrown) {
            due("no call throws", thrown.toString(), "nothing thrown");
        }
        if (answers == before) {
            due("the test looks at answers", 0, "one or more");
        }
    }

    static void due(String what, Object got, Object want) {
        answers++;
        if (!want.equals(got)) {
            wrong++;
            System.out.println("\"" + sentence + "\" " + what + ": answered " + got + ", due is " + want);
        }
    }

    static void finish() {
        String kept = sentences + " sentences, " + answers + " answers: ";
        System.out.println(kept + (wrong == 0 ? "all are as due" : wrong + " are not as due"));
        if (wrong != 0) {
            System.exit(1);
        }
    }

    static void type(ReflowTerminal t, String text) {
        for (int i = 0; i < text.length(); i++) {
            due("put(" + (int) text.charAt(i) + ")", t.put(text.charAt(i)), true);
        }
    }

    static ReflowTerminal typed(int width, int height, int capacity, String text) {
        ReflowTerminal t = new ReflowTerminal(width, height, capacity);
        type(t, text);
        return t;
    }

    /** A terminal in main mode that shows this picture, with the whole screen as region and no pending cursor. */
    static ReflowTerminal drawn(String picture, int capacity, int row, int col) {
        int mark = picture.indexOf('^');
        String[] screen = picture.substring(mark + 1).split("\\|");
        int last = screen.length - 1;
        ReflowTerminal t = new ReflowTerminal(screen[0].replace(">", "").length(), screen.length, capacity);
        if (mark > 0) {
            for (String gone : picture.substring(0, mark).split("\\|")) {
                draw(t, 0, last, gone);
                t.setCursor(last, 0);
                t.put('\n');
            }
        }
        for (int r = 0; r <= last; r++) {
            draw(t, r, last, screen[r]);
        }
        within(t, 0, last, row, col);
        due("the start of the test", shown(t), picture + " " + row + "," + col);
        return t;
    }

    // The character that sets a wrap flag lands in the next row, which is drawn after this one. Behind the last row
    // there is none, so there the region ends one row earlier and the character lands where its like stands already.
    private static void draw(ReflowTerminal t, int row, int last, String text) {
        String codes = text.replace(">", "").replace('.', ' ');
        if (row == last && last > 1) {
            t.setScrollRegion(0, last - 1);
        }
        t.setCursor(row, 0);
        for (int i = 0; i < codes.length(); i++) {
            t.put(codes.charAt(i));
        }
        if (text.endsWith(">")) {
            t.put(codes.charAt(0));
        }
    }

    /** Sets the region and then the cursor, which setScrollRegion sends to 0,0. */
    static void within(ReflowTerminal t, int top, int bottom, int row, int col) {
        due("setScrollRegion(" + top + ", " + bottom + ")", t.setScrollRegion(top, bottom), true);
        due("setCursor(" + row + ", " + col + ")", t.setCursor(row, col), true);
    }

    /** Leaves the cursor pending at the end of the row, whose cells stay as they are. */
    static void pendingIn(ReflowTerminal t, int row) {
        int last = t.info(ReflowTerminal.INFO_WIDTH) - 1;
        t.setCursor(row, last);
        t.put(t.cell(row, last));
        due("the cursor before the call", cursor(t), row + "," + last + "p");
    }

    /** The cells of one row, '.' for BLANK, with '>' behind them if the row is wrapped. */
    static String row(ReflowTerminal t, int r) {
        StringBuilder text = new StringBuilder();
        for (int c = 0; c < t.info(ReflowTerminal.INFO_WIDTH); c++) {
            text.append(sign(t.cell(r, c)));
        }
        return text.append(t.wrapped(r) ? ">" : "").toString();
    }

    private static String sign(int code) {
        boolean known = code > ReflowTerminal.BLANK && code <= 126;
        return code == ReflowTerminal.BLANK ? "." : known ? "" + (char) code : "{" + code + "}";
    }

    /** The scrollback rows, oldest first, then '^' and the rows of the active screen. */
    static String picture(ReflowTerminal t) {
        StringBuilder text = new StringBuilder();
        for (int r = -t.info(ReflowTerminal.INFO_SCROLLBACK); r < 0; r++) {
            text.append(row(t, r)).append('|');
        }
        StringJoiner screen = new StringJoiner("|");
        for (int r = 0; r < t.info(ReflowTerminal.INFO_HEIGHT); r++) {
            screen.add(row(t, r));
        }
        return text.append('^').append(screen).toString();
    }

    /** The active cursor as "row,column", with 'p' behind it if it is pending. */
    static String cursor(ReflowTerminal t) {
        return t.cursorRow() + "," + t.cursorCol() + (t.info(ReflowTerminal.INFO_PENDING) == 1 ? "p" : "");
    }

    static String shown(ReflowTerminal t) {
        return picture(t) + " " + cursor(t);
    }

    /** The logical lines, '.' for BLANK, then '@', the cursor line and its offset. */
    static String lines(ReflowTerminal t) {
        StringJoiner all = new StringJoiner("|");
        for (int i = 0; i < t.info(ReflowTerminal.INFO_LINES); i++) {
            StringBuilder text = new StringBuilder();
            for (int j = 0; j < t.lineLength(i); j++) {
                text.append(sign(t.lineChar(i, j)));
            }
            all.add(text);
        }
        return all + "@" + t.info(ReflowTerminal.INFO_CURSOR_LINE) + "," + t.info(ReflowTerminal.INFO_CURSOR_OFFSET);
    }

    static String region(ReflowTerminal t) {
        return t.info(ReflowTerminal.INFO_REGION_TOP) + ".." + t.info(ReflowTerminal.INFO_REGION_BOTTOM);
    }

    static String mainCursor(ReflowTerminal t) {
        return t.info(ReflowTerminal.INFO_MAIN_ROW) + "," + t.info(ReflowTerminal.INFO_MAIN_COL);
    }

    /** Width x height + capacity. */
    static String sizes(ReflowTerminal t) {
        return t.info(ReflowTerminal.INFO_WIDTH) + "x" + t.info(ReflowTerminal.INFO_HEIGHT)
            + "+" + t.info(ReflowTerminal.INFO_CAPACITY);
    }

    /** Everything that the queries tell at this moment. */
    static String state(ReflowTerminal t) {
        StringJoiner infos = new StringJoiner(",");
        for (int kind = 0; kind <= ReflowTerminal.INFO_MAIN_COL; kind++) {
            infos.add("" + t.info(kind));
        }
        return shown(t) + " " + lines(t) + " " + infos;
    }

    static void changesNothing(String what, Supplier<ReflowTerminal> make, Consumer<ReflowTerminal> call) {
        for (int i = 0; i < LATER.size(); i++) {
            ReflowTerminal called = make.get();
            ReflowTerminal untouched = make.get();
            call.accept(called);
            LATER.get(i).accept(called);
            LATER.get(i).accept(untouched);
            due("all answers after " + what + " and step " + i, state(called), state(untouched));
        }
    }

    static void refused(String what, Supplier<ReflowTerminal> make, Predicate<ReflowTerminal> call) {
        changesNothing(what, make, t -> due(what, call.test(t), false));
    }
}
