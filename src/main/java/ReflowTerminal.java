/** A character-grid terminal with scrollback, soft wraps and reflow on resizing. */
public final class ReflowTerminal {
    public static final int BLANK = 32;
    public static final int EL_TO_END = 0;
    public static final int EL_TO_START = 1;
    public static final int EL_ALL = 2;
    public static final int INFO_WIDTH = 0;
    public static final int INFO_HEIGHT = 1;
    public static final int INFO_CAPACITY = 2;
    public static final int INFO_SCROLLBACK = 3;
    public static final int INFO_ALT = 4;
    public static final int INFO_REGION_TOP = 5;
    public static final int INFO_REGION_BOTTOM = 6;
    public static final int INFO_PENDING = 7;
    public static final int INFO_LINES = 8;
    public static final int INFO_CURSOR_LINE = 9;
    public static final int INFO_CURSOR_OFFSET = 10;
    public static final int INFO_MAIN_ROW = 11;
    public static final int INFO_MAIN_COL = 12;

    private static final int MIN_WIDTH = 4;
    private static final int MAX_WIDTH = 16;
    private static final int MIN_HEIGHT = 2;
    private static final int MAX_HEIGHT = 8;
    private static final int MAX_SCROLLBACK = 16;
    private static final int LAST_PRINTABLE = 126;
    private static final int BACKSPACE = 8;
    private static final int TAB = 9;
    private static final int TAB_STEP = 8;
    private static final int FEED = 10;
    private static final int RETURN = 13;

    // The rows of both buffers stand in one store, so that a row of either
    // screen is named by one number: first the scrollback, right behind it
    // the main screen, and from ALT_BASE on the alternate screen.
    private static final int ALT_BASE = MAX_SCROLLBACK + MAX_HEIGHT;
    private static final int STORE_ROWS = ALT_BASE + MAX_HEIGHT;
    private static final int STORE_CELLS = STORE_ROWS * MAX_WIDTH;

    // A full row of the main buffer splits into MAX_WIDTH / MIN_WIDTH rows at
    // most, so no reflow makes more rows than these.
    private static final int FLOW_ROWS = ALT_BASE * (MAX_WIDTH / MIN_WIDTH);
    private static final int FLOW_CELLS = FLOW_ROWS * MAX_WIDTH;

    // A row takes MAX_WIDTH places at every width; those past the width stay
    // BLANK, so that an alternate screen that grows finds nothing old there.
    private final int[] cells = new int[STORE_CELLS];
    private final boolean[] flags = new boolean[STORE_ROWS];

    // A reflow builds its rows here, since it still reads the old ones.
    private final int[] flowCells = new int[FLOW_CELLS];
    private final boolean[] flowFlags = new boolean[FLOW_ROWS];
    private int flowCount;
    private int flowCursor;

    private int width;
    private int height;
    private int capacity;
    private int scrolled;
    private boolean alt;
    private int top;
    private int bottom;
    private int row;
    private int col;
    private boolean pending;
    private int savedRow;
    private int savedCol;
    private boolean savedPending;

    public ReflowTerminal(int width, int height, int scrollback) {
        this.width = clamp(width, MIN_WIDTH, MAX_WIDTH);
        this.height = clamp(height, MIN_HEIGHT, MAX_HEIGHT);
        this.capacity = clamp(scrollback, 0, MAX_SCROLLBACK);
        clearRows(0, STORE_ROWS);
        resetRegion();
    }

    public boolean put(int c) {
        if (c >= BLANK && c <= LAST_PRINTABLE) {
            print(c);
            return true;
        }
        switch (c) {
            case RETURN:
                col = 0;
                break;
            case FEED:
                lineFeed();
                break;
            case BACKSPACE:
                col = larger(0, col - 1);
                break;
            case TAB:
                col = smaller(width - 1, col - col % TAB_STEP + TAB_STEP);
                break;
            default:
                return false;
        }
        pending = false;
        return true;
    }

    public boolean eraseInLine(int mode) {
        switch (mode) {
            case EL_TO_END:
                eraseInCursorRow(col, width);
                endCursorRow();
                break;
            case EL_TO_START:
                eraseInCursorRow(0, col + 1);
                break;
            case EL_ALL:
                eraseInCursorRow(0, width);
                endCursorRow();
                break;
            default:
                return false;
        }
        pending = false;
        return true;
    }

    public boolean setScrollRegion(int top, int bottom) {
        if (top < 0 || top >= bottom || bottom >= height) {
            return false;
        }
        this.top = top;
        this.bottom = bottom;
        moveCursor(0, 0);
        return true;
    }

    public boolean setCursor(int row, int col) {
        if (row < 0 || row >= height || col < 0 || col >= width) {
            return false;
        }
        moveCursor(row, col);
        return true;
    }

    public boolean enterAlt() {
        if (alt) {
            return false;
        }
        savedRow = row;
        savedCol = col;
        savedPending = pending;
        clearRows(ALT_BASE, STORE_ROWS);
        alt = true;
        moveCursor(0, 0);
        resetRegion();
        return true;
    }

    public boolean leaveAlt() {
        if (!alt) {
            return false;
        }
        alt = false;
        row = savedRow;
        col = savedCol;
        pending = savedPending;
        resetRegion();
        return true;
    }

    public int resize(int width, int height) {
        int newWidth = clamp(width, MIN_WIDTH, MAX_WIDTH);
        int newHeight = clamp(height, MIN_HEIGHT, MAX_HEIGHT);
        int offset = cursorOffset();
        flowLines(newWidth);
        int firstShown = firstShownFlowRow(newHeight);
        int lost = placeFlow(firstShown, newHeight);
        int mainRow = flowCursor - firstShown;
        int mainCol = offset % newWidth;
        if (alt) {
            savedRow = mainRow;
            savedCol = mainCol;
            savedPending = false;
            cropAlt(newWidth, newHeight);
        } else {
            moveCursor(mainRow, mainCol);
            clearRows(ALT_BASE, STORE_ROWS);
        }
        this.width = newWidth;
        this.height = newHeight;
        resetRegion();
        return lost;
    }

    public int cell(int row, int col) {
        if (!isReadable(row) || col < 0 || col >= width) {
            return -1;
        }
        return cells[storeRow(row) * MAX_WIDTH + col];
    }

    public boolean wrapped(int row) {
        if (!isReadable(row)) {
            return false;
        }
        return flags[storeRow(row)];
    }

    public int cursorRow() {
        return row;
    }

    public int cursorCol() {
        return col;
    }

    public int info(int kind) {
        switch (kind) {
            case INFO_WIDTH:
                return width;
            case INFO_HEIGHT:
                return height;
            case INFO_CAPACITY:
                return capacity;
            case INFO_SCROLLBACK:
                return scrolled;
            case INFO_ALT:
                return alt ? 1 : 0;
            case INFO_REGION_TOP:
                return top;
            case INFO_REGION_BOTTOM:
                return bottom;
            case INFO_PENDING:
                return pending ? 1 : 0;
            case INFO_LINES:
                return lineCount();
            case INFO_CURSOR_LINE:
                return cursorLine();
            case INFO_CURSOR_OFFSET:
                return cursorOffset();
            case INFO_MAIN_ROW:
                return mainCursorRow();
            case INFO_MAIN_COL:
                return mainCursorCol();
            default:
                return -1;
        }
    }

    public int lineLength(int i) {
        if (i < 0 || i >= lineCount()) {
            return -1;
        }
        int start = lineStart(i);
        return textLength(start);
    }

    public int lineChar(int i, int j) {
        if (i < 0 || i >= lineCount()) {
            return -1;
        }
        int start = lineStart(i);
        if (j < 0 || j >= textLength(start)) {
            return -1;
        }
        return textChar(start, j);
    }

    private static int clamp(int value, int least, int greatest) {
        if (value < least) {
            return least;
        }
        return value > greatest ? greatest : value;
    }

    private static int smaller(int a, int b) {
        return a < b ? a : b;
    }

    private static int larger(int a, int b) {
        return a > b ? a : b;
    }

    private void resetRegion() {
        top = 0;
        bottom = height - 1;
    }

    private void moveCursor(int toRow, int toCol) {
        row = toRow;
        col = toCol;
        pending = false;
    }

    private int screenBase() {
        return alt ? ALT_BASE : scrolled;
    }

    private boolean isReadable(int screenRow) {
        return screenRow >= -scrolled && screenRow < height;
    }

    private int storeRow(int screenRow) {
        return screenRow < 0 ? scrolled + screenRow : screenBase() + screenRow;
    }

    private void print(int c) {
        if (pending) {
            flags[screenBase() + row] = true;
            lineFeed();
            col = 0;
            pending = false;
        }
        cells[(screenBase() + row) * MAX_WIDTH + col] = c;
        if (col == width - 1) {
            pending = true;
        } else {
            col++;
        }
    }

    private void lineFeed() {
        if (row == bottom) {
            scroll();
        } else if (row < height - 1) {
            row++;
        }
    }

    private void scroll() {
        int base = screenBase();
        if (alt || top > 0) {
            shiftRowsUp(base + top, base + bottom);
        } else if (scrolled < capacity) {
            growScrollback();
        } else {
            // The scrollback is full, or there is none: the oldest row of the
            // main buffer is the one that falls out.
            shiftRowsUp(0, base + bottom);
        }
    }

    // The screen's top row becomes scrollback where it stands, so the rows of
    // the region need no move; those below it make room for the blank row.
    private void growScrollback() {
        int opened = scrolled + bottom + 1;
        for (int r = scrolled + height; r > opened; r--) {
            copyRow(r - 1, r);
        }
        clearRow(opened);
        scrolled++;
    }

    private void shiftRowsUp(int first, int last) {
        for (int r = first; r < last; r++) {
            copyRow(r + 1, r);
        }
        clearRow(last);
    }

    private void copyRow(int from, int to) {
        for (int c = 0; c < MAX_WIDTH; c++) {
            cells[to * MAX_WIDTH + c] = cells[from * MAX_WIDTH + c];
        }
        flags[to] = flags[from];
    }

    private void clearRows(int first, int end) {
        for (int r = first; r < end; r++) {
            clearRow(r);
        }
    }

    private void clearRow(int at) {
        for (int c = 0; c < MAX_WIDTH; c++) {
            cells[at * MAX_WIDTH + c] = BLANK;
        }
        flags[at] = false;
    }

    private void clearCells(int at, int first, int end) {
        for (int c = first; c < end; c++) {
            cells[at * MAX_WIDTH + c] = BLANK;
        }
    }

    private void eraseInCursorRow(int first, int end) {
        int at = screenBase() + row;
        clearCells(at, first, end);
    }

    private void endCursorRow() {
        flags[screenBase() + row] = false;
    }

    private int mainCursorRow() {
        return alt ? savedRow : row;
    }

    private int mainCursorCol() {
        return alt ? savedCol : col;
    }

    private int cursorLine() {
        int cursorRowIndex = scrolled + mainCursorRow();
        int line = 0;
        for (int r = 0; r < cursorRowIndex; r++) {
            if (!flags[r]) {
                line++;
            }
        }
        return line;
    }

    private int cursorOffset() {
        int line = cursorLine();
        int start = lineStart(line);
        int rowsBefore = scrolled + mainCursorRow() - start;
        return rowsBefore * width + mainCursorCol();
    }

    // A line has text if and only if one of its rows has, so the last row with
    // text, or the cursor's row if that is later, lies in the last line.
    private int lineCount() {
        int rows = scrolled + height;
        int cursorRowIndex = scrolled + mainCursorRow();
        int line = 0;
        int count = 0;
        for (int r = 0; r < rows; r++) {
            if (r == cursorRowIndex || hasText(r)) {
                count = line + 1;
            }
            if (!flags[r]) {
                line++;
            }
        }
        return count;
    }

    private boolean hasText(int at) {
        for (int c = 0; c < width; c++) {
            if (cells[at * MAX_WIDTH + c] != BLANK) {
                return true;
            }
        }
        return false;
    }

    private int lineStart(int line) {
        int rows = scrolled + height;
        int start = 0;
        int linesBefore = 0;
        for (int r = 1; r < rows && linesBefore < line; r++) {
            if (!flags[r - 1]) {
                linesBefore++;
                start = r;
            }
        }
        return start;
    }

    private int lineEnd(int start) {
        int rows = scrolled + height;
        for (int r = start + 1; r < rows; r++) {
            if (!flags[r - 1]) {
                return r;
            }
        }
        return rows;
    }

    private int textLength(int start) {
        int places = (lineEnd(start) - start) * width;
        for (int length = places; length > 0; length--) {
            if (textChar(start, length - 1) != BLANK) {
                return length;
            }
        }
        return 0;
    }

    private int textChar(int start, int j) {
        return cells[(start + j / width) * MAX_WIDTH + j % width];
    }

    private void flowLines(int newWidth) {
        int lines = lineCount();
        int lineOfCursor = cursorLine();
        int cursorRowInLine = cursorOffset() / newWidth;
        int start = 0;
        flowCount = 0;
        for (int line = 0; line < lines; line++) {
            int length = textLength(start);
            int rows = larger(1, (length + newWidth - 1) / newWidth);
            if (line == lineOfCursor) {
                rows = larger(rows, cursorRowInLine + 1);
                flowCursor = flowCount + cursorRowInLine;
            }
            for (int r = 0; r < rows; r++) {
                flowRow(start, length, r * newWidth, newWidth);
                flowFlags[flowCount] = r < rows - 1;
                flowCount++;
            }
            start = lineEnd(start);
        }
    }

    private void flowRow(int start, int length, int from, int newWidth) {
        for (int c = 0; c < MAX_WIDTH; c++) {
            boolean inText = c < newWidth && from + c < length;
            flowCells[flowCount * MAX_WIDTH + c] = inText ? textChar(start, from + c) : BLANK;
        }
    }

    private int firstShownFlowRow(int newHeight) {
        int hidden = larger(0, flowCount - newHeight);
        return smaller(hidden, flowCursor);
    }

    private int placeFlow(int firstShown, int newHeight) {
        scrolled = smaller(firstShown, capacity);
        int dropped = firstShown - scrolled;
        int rows = scrolled + newHeight;
        for (int r = 0; r < rows; r++) {
            if (dropped + r < flowCount) {
                takeFlowRow(dropped + r, r);
            } else {
                clearRow(r);
            }
        }
        int below = larger(0, flowCount - firstShown - newHeight);
        return dropped + below;
    }

    private void takeFlowRow(int from, int to) {
        for (int c = 0; c < MAX_WIDTH; c++) {
            cells[to * MAX_WIDTH + c] = flowCells[from * MAX_WIDTH + c];
        }
        flags[to] = flowFlags[from];
    }

    private void cropAlt(int newWidth, int newHeight) {
        for (int r = 0; r < MAX_HEIGHT; r++) {
            int kept = r < newHeight ? newWidth : 0;
            clearCells(ALT_BASE + r, kept, MAX_WIDTH);
            flags[ALT_BASE + r] = false;
        }
        int keptRow = smaller(row, newHeight - 1);
        int keptCol = smaller(col, newWidth - 1);
        moveCursor(keptRow, keptCol);
    }
}
