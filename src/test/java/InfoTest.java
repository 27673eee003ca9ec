/** Promise 10: info. */
public final class InfoTest {
    private static void infos(String what, ReflowTerminal t, int... want) {
        for (int kind = 0; kind < want.length; kind++) {
            Checks.due(what + ": info(" + kind + ")", t.info(kind), want[kind]);
        }
    }

    private static void mainMode() {
        ReflowTerminal t = new ReflowTerminal(5, 3, 4);
        infos("new", t, 5, 3, 4, 0, 0, 0, 2, 0, 1, 0, 0, 0, 0);
        Checks.type(t, "A\r\nB\r\nCDEFGHI\r\nJKLMN");
        infos("used", t, 5, 3, 4, 2, 0, 0, 2, 1, 4, 3, 4, 2, 4);
        t.setScrollRegion(1, 2);
        infos("region set", t, 5, 3, 4, 2, 0, 1, 2, 0, 4, 2, 0, 0, 0);
        t.setCursor(1, 3);
        infos("in a wrapped line", t, 5, 3, 4, 2, 0, 1, 2, 0, 4, 2, 8, 1, 3);
    }

    private static void alternateMode() {
        ReflowTerminal t = new ReflowTerminal(5, 3, 4);
        Checks.type(t, "A\r\nB\r\nCDEFGHI\r\nJKLMN");
        t.enterAlt();
        infos("alternate", t, 5, 3, 4, 2, 1, 0, 2, 0, 4, 3, 4, 2, 4);
        t.setScrollRegion(0, 1);
        t.setCursor(1, 4);
        Checks.type(t, "X");
        infos("alternate used", t, 5, 3, 4, 2, 1, 0, 1, 1, 4, 3, 4, 2, 4);
    }

    private static void wrongKinds() {
        ReflowTerminal t = new ReflowTerminal(5, 3, 4);
        int[] kinds = {-1, 13, 14, 256, Integer.MIN_VALUE, Integer.MAX_VALUE};
        for (int kind : kinds) {
            String before = Checks.state(t);
            Checks.due("info(" + kind + ")", t.info(kind), -1);
            Checks.due("state after", Checks.state(t), before);
        }
    }

    public static void main(String[] args) {
        mainMode();
        alternateMode();
        wrongKinds();
        Checks.finish();
    }
}
