import java.util.ArrayList;
import java.util.List;

/** The document's words over lists, as slow and as literal as they read; the program is compared with it. */
final class Model {
    private static final class Row {
        final int[] cells;
        boolean flag;

        Row(int width) {
            cells = new int[width];
            java.util.Arrays.fill(cells, 32);
        }
    }

    private static final class Cursor {
        int y;
        int x;
        boolean pending;

        Cursor(int y, int x, boolean pending) {
            this.y = y;
            this.x = x;
            this.pending = pending;
        }
    }

    private int w;
    private int h;
    private final int s;
    private List<Row> scrollback = new ArrayList<>();
    private List<Row> main;
    private List<Row> other;
    private boolean alt;
    private Cursor active = new Cursor(0, 0, false);
    private Cursor saved = new Cursor(0, 0, false);
    private int top;
    private int bottom;

    private List<List<Integer>> lines;
    private int cursorLine;
    private int k;

    Model(int width, int height, int capacity) {
        w = Math.min(16, Math.max(4, width));
        h = Math.min(8, Math.max(2, height));
        s = Math.min(16, Math.max(0, capacity));
        main = blankScreen(w, h);
        other = blankScreen(w, h);
        bottom = h - 1;
    }

    private static List<Row> blankScreen(int width, int height) {
        List<Row> rows = new ArrayList<>();
        for (int r = 0; r < height; r++) {
            rows.add(new Row(width));
        }
        return rows;
    }

    private List<Row> screen() {
        return alt ? other : main;
    }

    private void scroll() {
        Row leaving = screen().remove(top);
        screen().add(bottom, new Row(w));
        if (!alt && top == 0 && s > 0) {
            if (scrollback.size() == s) {
                scrollback.remove(0);
            }
            scrollback.add(leaving);
        }
    }

    private void lineFeed() {
        if (active.y == bottom) {
            scroll();
        } else if (active.y < h - 1) {
            active.y++;
        }
    }

    boolean put(int c) {
        if (c >= 32 && c <= 126) {
            if (active.pending) {
                screen().get(active.y).flag = true;
                lineFeed();
                active.x = 0;
                active.pending = false;
            }
            screen().get(active.y).cells[active.x] = c;
            if (active.x == w - 1) {
                active.pending = true;
            } else {
                active.x++;
            }
            return true;
        }
        if (c == 13) {
            active.x = 0;
        } else if (c == 10) {
            lineFeed();
        } else if (c == 8) {
            active.x = Math.max(0, active.x - 1);
        } else if (c == 9) {
            active.x = Math.min(w - 1, (active.x / 8 + 1) * 8);
        } else {
            return false;
        }
        active.pending = false;
        return true;
    }

    boolean eraseInLine(int mode) {
        if (mode < 0 || mode > 2) {
            return false;
        }
        Row row = screen().get(active.y);
        for (int c = 0; c < w; c++) {
            boolean erased = mode == 0 ? c >= active.x : mode == 1 ? c <= active.x : true;
            if (erased) {
                row.cells[c] = 32;
            }
        }
        if (mode != 1) {
            row.flag = false;
        }
        active.pending = false;
        return true;
    }

    boolean setScrollRegion(int newTop, int newBottom) {
        if (!(0 <= newTop && newTop < newBottom && newBottom <= h - 1)) {
            return false;
        }
        top = newTop;
        bottom = newBottom;
        active = new Cursor(0, 0, false);
        return true;
    }

    boolean setCursor(int row, int col) {
        if (!(0 <= row && row <= h - 1 && 0 <= col && col <= w - 1)) {
            return false;
        }
        active = new Cursor(row, col, false);
        return true;
    }

    boolean enterAlt() {
        if (alt) {
            return false;
        }
        saved = active;
        other = blankScreen(w, h);
        alt = true;
        active = new Cursor(0, 0, false);
        top = 0;
        bottom = h - 1;
        return true;
    }

    boolean leaveAlt() {
        if (!alt) {
            return false;
        }
        alt = false;
        active = saved;
        top = 0;
        bottom = h - 1;
        return true;
    }

    private Cursor mainCursor() {
        return alt ? saved : active;
    }

    private void takeLines() {
        List<Row> q = new ArrayList<>(scrollback);
        q.addAll(main);
        int cursorIndex = scrollback.size() + mainCursor().y;
        lines = new ArrayList<>();
        for (int i = 0; i < q.size(); i++) {
            if (i == 0 || !q.get(i - 1).flag) {
                lines.add(new ArrayList<>());
            }
            List<Integer> line = lines.get(lines.size() - 1);
            if (i == cursorIndex) {
                cursorLine = lines.size() - 1;
                k = line.size() + mainCursor().x;
            }
            for (int code : q.get(i).cells) {
                line.add(code);
            }
        }
        for (List<Integer> line : lines) {
            while (!line.isEmpty() && line.get(line.size() - 1) == 32) {
                line.remove(line.size() - 1);
            }
        }
        while (lines.size() - 1 > cursorLine && lines.get(lines.size() - 1).isEmpty()) {
            lines.remove(lines.size() - 1);
        }
    }

    private int reflow(int w2, int h2) {
        takeLines();
        List<Row> all = new ArrayList<>();
        int p = -1;
        for (int i = 0; i < lines.size(); i++) {
            List<Integer> text = lines.get(i);
            int r = Math.max(1, (text.size() + w2 - 1) / w2);
            if (i == cursorLine) {
                r = Math.max(r, k / w2 + 1);
                p = all.size() + k / w2;
            }
            for (int j = 0; j < r; j++) {
                Row row = new Row(w2);
                for (int c = 0; c < w2 && j * w2 + c < text.size(); c++) {
                    row.cells[c] = text.get(j * w2 + c);
                }
                row.flag = j != r - 1;
                all.add(row);
            }
        }
        int t = all.size();
        int first = 0;
        int lost = 0;
        if (t <= h2) {
            main = all;
            main.addAll(blankScreen(w2, h2 - t));
            scrollback = new ArrayList<>();
        } else {
            first = Math.min(t - h2, p);
            main = new ArrayList<>(all.subList(first, first + h2));
            scrollback = new ArrayList<>(all.subList(Math.max(0, first - s), first));
            lost = Math.max(0, first - s) + (t - first - h2);
        }
        Cursor cursor = new Cursor(p - first, k % w2, false);
        if (alt) {
            saved = cursor;
        } else {
            active = cursor;
        }
        return lost;
    }

    int resize(int width, int height) {
        int w2 = Math.min(16, Math.max(4, width));
        int h2 = Math.min(8, Math.max(2, height));
        int lost = reflow(w2, h2);
        List<Row> resized = blankScreen(w2, h2);
        if (alt) {
            for (int r = 0; r < Math.min(h, h2); r++) {
                for (int c = 0; c < Math.min(w, w2); c++) {
                    resized.get(r).cells[c] = other.get(r).cells[c];
                }
            }
            active = new Cursor(Math.min(active.y, h2 - 1), Math.min(active.x, w2 - 1), false);
        }
        other = resized;
        w = w2;
        h = h2;
        top = 0;
        bottom = h - 1;
        return lost;
    }

    private Row find(int row) {
        int n = scrollback.size();
        if (row < 0) {
            return row >= -n ? scrollback.get(n + row) : null;
        }
        return row < h ? screen().get(row) : null;
    }

    int cell(int row, int col) {
        Row found = find(row);
        return found == null || col < 0 || col >= w ? -1 : found.cells[col];
    }

    boolean wrapped(int row) {
        Row found = find(row);
        return found != null && found.flag;
    }

    int cursorRow() {
        return active.y;
    }

    int cursorCol() {
        return active.x;
    }

    int info(int kind) {
        takeLines();
        int[] answers = {w, h, s, scrollback.size(), alt ? 1 : 0, top, bottom, active.pending ? 1 : 0,
            lines.size(), cursorLine, k, mainCursor().y, mainCursor().x};
        return kind < 0 || kind >= answers.length ? -1 : answers[kind];
    }

    int lineLength(int i) {
        takeLines();
        return i < 0 || i >= lines.size() ? -1 : lines.get(i).size();
    }

    int lineChar(int i, int j) {
        takeLines();
        return i < 0 || i >= lines.size() || j < 0 || j >= lines.get(i).size() ? -1 : lines.get(i).get(j);
    }
}
