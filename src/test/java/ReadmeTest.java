/** The examples of README.md, call for call: what stands there behind // is due here. */
public final class ReadmeTest {
    private static ReflowTerminal helloWorld() {
        ReflowTerminal t = new ReflowTerminal(8, 4, 16);
        for (char c : "HELLO WORLD".toCharArray()) {
            t.put(c);
        }
        return t;
    }

    private static ReflowTerminal widened() {
        ReflowTerminal t = helloWorld();
        Checks.due("resize(16, 4)", t.resize(16, 4), 0);
        return t;
    }

    private static void feedAndRead() {
        ReflowTerminal narrow = helloWorld();
        Checks.due("cell(1, 2)", narrow.cell(1, 2), (int) 'D');
        Checks.due("wrapped(0)", narrow.wrapped(0), true);
        ReflowTerminal t = widened();
        Checks.due("cell(0, 10)", t.cell(0, 10), (int) 'D');
        Checks.due("lineLength(0)", t.lineLength(0), 11);
        Checks.due("lineChar(0, 10)", t.lineChar(0, 10), (int) 'D');
        Checks.due("INFO_CURSOR_OFFSET", t.info(ReflowTerminal.INFO_CURSOR_OFFSET), 11);
    }

    private static void alternateScreen() {
        ReflowTerminal t = widened();
        Checks.due("enterAlt()", t.enterAlt(), true);
        Checks.due("after entering", Checks.cursor(t), "0,0");
        Checks.due("put('x')", t.put('x'), true);
        Checks.due("lineLength(0)", t.lineLength(0), 11);
        Checks.due("leaveAlt()", t.leaveAlt(), true);
        Checks.due("after leaving", Checks.cursor(t), "0,11");
        Checks.due("cell(0, 0)", t.cell(0, 0), (int) 'H');
    }

    private static void scrollback() {
        ReflowTerminal t = widened();
        t.enterAlt();
        t.put('x');
        t.leaveAlt();
        Checks.due("setCursor(3, 0)", t.setCursor(3, 0), true);
        Checks.due("put('\\n')", t.put('\n'), true);
        Checks.due("INFO_SCROLLBACK", t.info(ReflowTerminal.INFO_SCROLLBACK), 1);
        Checks.due("cell(-1, 0)", t.cell(-1, 0), (int) 'H');
        Checks.due("cell(-2, 0)", t.cell(-2, 0), -1);
    }

    public static void main(String[] args) {
        Checks.sentence("Text is fed one code at a time, and everything can be read back", ReadmeTest::feedAndRead);
        Checks.sentence("The alternate screen has its own cursor and leaves the main buffer alone",
            ReadmeTest::alternateScreen);
        Checks.sentence("A row that scrolls off the top of the main screen goes to the scrollback and is read with a"
            + " negative row number", ReadmeTest::scrollback);
        Checks.finish();
    }
}
