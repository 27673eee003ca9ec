/**
 * Long mixed runs, the same on every start, compared with the model: the rows, the cursor and the infos after each
 * call, the texts of the lines after every twelfth, since they take the longest.
 */
public final class ModelTest {
    private static final int RUNS = 1500;
    private static final int CALLS = 120;
    private static final int[] EDGES = {Integer.MIN_VALUE, -1, 0, 1, 2, 3, 4, 5, 7, 8, 9, 15, 16, 17, Integer.MAX_VALUE};

    private static long seed = 1;
    private static int wrong = 0;

    private static int pick(int bound) {
        seed = seed * 6364136223846793005L + 1442695040888963407L;
        return (int) ((seed >>> 33) % bound);
    }

    private static int edge() {
        return EDGES[pick(EDGES.length)];
    }

    private static void compare(String what, long got, long want) {
        if (got != want) {
            wrong++;
            System.out.println(what + " answered " + got + ", the model answers " + want);
        }
    }

    private static void compare(String what, boolean got, boolean want) {
        compare(what, got ? 1L : 0L, want ? 1L : 0L);
    }

    private static int code() {
        int kind = pick(20);
        if (kind < 12) {
            return 33 + pick(94);
        }
        int[] others = {13, 10, 8, 9, 32, 32, 10, pick(300) - 100};
        return others[kind - 12];
    }

    private static void putSome(ReflowTerminal t, Model m, String label) {
        int times = 1 + pick(40);
        for (int i = 0; i < times; i++) {
            int c = code();
            compare(label + "put(" + c + ")", t.put(c), m.put(c));
        }
    }

    private static void call(ReflowTerminal t, Model m, String label) {
        int kind = pick(24);
        int a = kind % 2 == 0 ? pick(20) - 1 : edge();
        int b = kind % 3 == 0 ? edge() : pick(20) - 1;
        if (kind < 10) {
            putSome(t, m, label);
        } else if (kind < 13) {
            int mode = pick(5) - 1;
            compare(label + "eraseInLine(" + mode + ")", t.eraseInLine(mode), m.eraseInLine(mode));
        } else if (kind < 15) {
            int top = pick(4) - (pick(8) == 0 ? 1 : 0);
            int bottom = top + pick(6);
            compare(label + "setScrollRegion(" + top + ", " + bottom + ")",
                t.setScrollRegion(top, bottom), m.setScrollRegion(top, bottom));
        } else if (kind < 19) {
            compare(label + "setCursor(" + a % 9 + ", " + b + ")", t.setCursor(a % 9, b), m.setCursor(a % 9, b));
        } else if (kind < 20) {
            compare(label + "enterAlt()", t.enterAlt(), m.enterAlt());
        } else if (kind < 21) {
            compare(label + "leaveAlt()", t.leaveAlt(), m.leaveAlt());
        } else {
            resizeBoth(t, m, a, b / 2, label);
        }
    }

    private static void resizeBoth(ReflowTerminal t, Model m, int width, int height, String label) {
        String before = Checks.lines(t);
        int lost = t.resize(width, height);
        String what = label + "resize(" + width + ", " + height + ")";
        compare(what, lost, m.resize(width, height));
        if (lost == 0 && !before.equals(Checks.lines(t))) {
            wrong++;
            System.out.println(what + " answered 0, but the lines went from " + before + " to " + Checks.lines(t));
        }
    }

    private static void compareScreens(ReflowTerminal t, Model m, String label) {
        int height = m.info(ReflowTerminal.INFO_HEIGHT);
        int width = m.info(ReflowTerminal.INFO_WIDTH);
        for (int r = -17; r <= height; r++) {
            compare(label + "wrapped(" + r + ")", t.wrapped(r), m.wrapped(r));
            for (int c = -1; c <= width; c++) {
                compare(label + "cell(" + r + ", " + c + ")", t.cell(r, c), m.cell(r, c));
            }
        }
        compare(label + "cursorRow()", t.cursorRow(), m.cursorRow());
        compare(label + "cursorCol()", t.cursorCol(), m.cursorCol());
        for (int kind = -1; kind <= 13; kind++) {
            compare(label + "info(" + kind + ")", t.info(kind), m.info(kind));
        }
    }

    private static void compareLines(ReflowTerminal t, Model m, String label) {
        int lines = m.info(ReflowTerminal.INFO_LINES);
        for (int i = -1; i <= lines; i++) {
            int length = m.lineLength(i);
            compare(label + "lineLength(" + i + ")", t.lineLength(i), length);
            for (int j = -1; j <= Math.max(length, 0); j++) {
                compare(label + "lineChar(" + i + ", " + j + ")", t.lineChar(i, j), m.lineChar(i, j));
            }
        }
    }

    private static void run(int number) {
        int width = pick(3) == 0 ? edge() : 4 + pick(13);
        int height = pick(3) == 0 ? edge() : 2 + pick(7);
        int capacity = pick(3) == 0 ? edge() : pick(17);
        ReflowTerminal t = new ReflowTerminal(width, height, capacity);
        Model m = new Model(width, height, capacity);
        for (int i = 0; i < CALLS && wrong == 0; i++) {
            String label = "run " + number + " call " + i + ": ";
            call(t, m, label);
            compareScreens(t, m, label);
            if (i % 12 == 0) {
                compareLines(t, m, label);
            }
        }
    }

    public static void main(String[] args) {
        for (int number = 0; number < RUNS && wrong == 0; number++) {
            run(number);
        }
        System.out.println(wrong == 0 ? "all answers are as due" : wrong + " answers are not as due");
        if (wrong != 0) {
            System.exit(1);
        }
    }
}
