/** Promise 7: resize, with REFLOW. */
public final class ResizeTest {
    private static void resized(ReflowTerminal t, int width, int height, int lost, String want) {
        Checks.due("resize(" + width + ", " + height + ")", t.resize(width, height), lost);
        Checks.due("after resize(" + width + ", " + height + ")", Checks.picture(t) + " " + Checks.cursor(t), want);
        int last = t.info(ReflowTerminal.INFO_HEIGHT) - 1;
        Checks.due("region after it", Checks.region(t), "0.." + last);
    }

    private static void reflowing() {
        ReflowTerminal t = new ReflowTerminal(6, 3, 4);
        Checks.type(t, "ABCDEFGH\r\nIJ");
        resized(t, 4, 3, 0, "^ABCD>|EFGH|IJ.. 2,2");
        resized(t, 4, 2, 0, "ABCD>|^EFGH|IJ.. 1,2");
        resized(t, 5, 2, 0, "ABCDE>|^FGH..|IJ... 1,2");
        resized(t, 8, 4, 0, "^ABCDEFGH|IJ......|........|........ 1,2");
        Checks.due("lines", Checks.lines(t), "ABCDEFGH|IJ@1,2");
    }

    private static void sameSize() {
        ReflowTerminal t = new ReflowTerminal(4, 3, 2);
        t.setScrollRegion(1, 2);
        t.setCursor(2, 0);
        Checks.type(t, "ABCDE");
        Checks.due("before", Checks.picture(t) + " " + Checks.cursor(t), "^....|ABCD>|E... 2,1");
        resized(t, 4, 3, 0, "^....|ABCD>|E... 2,1");
        t.setCursor(2, 3);
        t.eraseInLine(ReflowTerminal.EL_TO_START);
        t.setCursor(1, 3);
        Checks.type(t, "X");
        Checks.due("a wrapped row before a blank one, pending", Checks.picture(t) + " " + Checks.cursor(t), "^....|ABCX>|.... 1,3p");
        resized(t, 4, 3, 0, "^....|ABCX|.... 1,3");
    }

    private static void scrollbackComesBack() {
        ReflowTerminal t = new ReflowTerminal(4, 2, 4);
        Checks.type(t, "A\r\nB\r\nC\r\nD");
        Checks.due("before", Checks.picture(t), "A...|B...|^C...|D...");
        resized(t, 4, 3, 0, "A...|^B...|C...|D... 2,1");
        resized(t, 4, 6, 0, "^A...|B...|C...|D...|....|.... 3,1");
    }

    private static void lostAtTheFront() {
        ReflowTerminal t = new ReflowTerminal(8, 2, 1);
        Checks.type(t, "ABCDEFGHIJKLMNOP");
        resized(t, 4, 2, 1, "EFGH>|^IJKL>|MNOP 1,3");
        Checks.due("lines", Checks.lines(t), "EFGHIJKLMNOP@0,11");
        ReflowTerminal none = new ReflowTerminal(8, 2, 0);
        Checks.type(none, "ABCDEFGHIJKLMNOP");
        resized(none, 4, 2, 2, "^IJKL>|MNOP 1,3");
    }

    private static void lostBelow() {
        ReflowTerminal t = new ReflowTerminal(4, 4, 2);
        Checks.type(t, "A\r\nB\r\nC\r\nD");
        t.setCursor(0, 2);
        resized(t, 4, 2, 2, "^A...|B... 0,2");
        ReflowTerminal cut = new ReflowTerminal(8, 2, 2);
        Checks.type(cut, "ABCDEFGHIJKLMN");
        cut.setCursor(0, 5);
        resized(cut, 4, 2, 1, "ABCD>|^EFGH>|IJKL> 0,1");
        Checks.due("the flag of the last row is kept, not asked", Checks.lines(cut), "ABCDEFGHIJKL@0,5");
    }

    private static void lostAtBothEnds() {
        ReflowTerminal t = new ReflowTerminal(8, 4, 1);
        Checks.type(t, "ABCDEFGH\r\nIJKLMNOP\r\nQRSTUVWX\r\nYZ");
        t.setCursor(1, 4);
        resized(t, 4, 2, 4, "IJKL>|^MNOP|QRST> 0,0");
    }

    private static void cursorPastTheText() {
        ReflowTerminal t = new ReflowTerminal(12, 2, 4);
        Checks.type(t, "AB");
        t.setCursor(0, 10);
        resized(t, 4, 3, 0, "^AB..>|....>|.... 2,2");
        Checks.due("lines", Checks.lines(t), "AB@0,10");
        resized(t, 16, 2, 0, "^AB..............|................ 0,10");
        t.setCursor(0, 4);
        resized(t, 4, 2, 0, "^AB..>|.... 1,0");
        resized(t, 5, 2, 0, "^AB...|..... 0,4");
    }

    private static void blankEndsAreDropped() {
        ReflowTerminal t = new ReflowTerminal(8, 3, 4);
        Checks.type(t, "AB      CD");
        t.setCursor(1, 1);
        t.eraseInLine(ReflowTerminal.EL_TO_START);
        t.setCursor(2, 0);
        Checks.type(t, "E");
        Checks.due("before", Checks.picture(t), "^AB......>|........|E.......");
        resized(t, 8, 3, 0, "^AB......|E.......|........ 1,1");
    }

    private static void pendingGoes() {
        ReflowTerminal t = new ReflowTerminal(4, 2, 2);
        Checks.type(t, "ABCD");
        resized(t, 8, 2, 0, "^ABCD....|........ 0,3");
        Checks.type(t, "X");
        Checks.due("the character is overwritten", Checks.lines(t), "ABCX@0,4");
    }

    private static void clamping() {
        ReflowTerminal t = new ReflowTerminal(8, 4, 3);
        int[][] sizes = {{3, 1, 4, 2}, {17, 9, 16, 8}, {Integer.MIN_VALUE, Integer.MAX_VALUE, 4, 8},
            {Integer.MAX_VALUE, Integer.MIN_VALUE, 16, 2}, {0, 0, 4, 2}, {5, 7, 5, 7}};
        for (int[] size : sizes) {
            Checks.due("resize", t.resize(size[0], size[1]), 0);
            Checks.due("width", t.info(ReflowTerminal.INFO_WIDTH), size[2]);
            Checks.due("height", t.info(ReflowTerminal.INFO_HEIGHT), size[3]);
            Checks.due("capacity", t.info(ReflowTerminal.INFO_CAPACITY), 3);
            Checks.due("region", Checks.region(t), "0.." + (size[3] - 1));
        }
    }

    private static void alternateMode() {
        ReflowTerminal t = new ReflowTerminal(6, 3, 4);
        Checks.type(t, "ABCDEFGHIJKL");
        t.enterAlt();
        Checks.type(t, "uvwxyz1\n\r234567");
        t.setScrollRegion(0, 1);
        t.setCursor(2, 5);
        Checks.type(t, "8");
        Checks.due("before", Checks.picture(t) + " " + Checks.cursor(t), "^uvwxyz>|1.....|234568 2,5p");
        resized(t, 4, 2, 0, "ABCD>|^uvwx|1... 1,3");
        Checks.due("main cursor", Checks.mainCursor(t), "1,3");
        resized(t, 6, 4, 0, "^uvwx..|1.....|......|...... 1,3");
        Checks.due("mode", t.info(ReflowTerminal.INFO_ALT), 1);
        Checks.due("lines", Checks.lines(t), "ABCDEFGHIJKL@0,11");
        t.leaveAlt();
        Checks.due("main", Checks.picture(t) + " " + Checks.cursor(t), "^ABCDEF>|GHIJKL|......|...... 1,5");
    }

    private static void savedCursorMoves() {
        ReflowTerminal t = new ReflowTerminal(8, 4, 2);
        Checks.type(t, "ABCDEFGHIJKLMN");
        t.enterAlt();
        Checks.type(t, "uvwxyz12345678901");
        Checks.due("before", Checks.picture(t), "^uvwxyz12>|34567890>|1.......|........");
        resized(t, 4, 4, 0, "^uvwx|3456|1...|.... 2,1");
        Checks.due("main cursor goes down", Checks.mainCursor(t), "3,2");
        resized(t, 16, 4, 0, "^uvwx............|3456............|1...............|................ 2,1");
        Checks.due("main cursor goes up", Checks.mainCursor(t), "0,14");
        t.leaveAlt();
        Checks.due("cursor after leaving", Checks.cursor(t), "0,14");
    }

    private static void savedPendingGoes() {
        ReflowTerminal t = new ReflowTerminal(4, 2, 2);
        Checks.type(t, "ABCD");
        t.enterAlt();
        Checks.due("resize(4, 2)", t.resize(4, 2), 0);
        t.leaveAlt();
        Checks.due("cursor after leaving", Checks.cursor(t), "0,3");
    }

    private static void alternateCursorInside() {
        ReflowTerminal t = new ReflowTerminal(6, 3, 0);
        t.enterAlt();
        t.setCursor(1, 2);
        Checks.due("resize", t.resize(16, 8), 0);
        Checks.due("the cursor stays", Checks.cursor(t), "1,2");
    }

    private static void alternateAfterMainResize() {
        ReflowTerminal t = new ReflowTerminal(4, 2, 0);
        t.enterAlt();
        Checks.type(t, "ABCDEFGH");
        t.leaveAlt();
        t.resize(8, 4);
        t.enterAlt();
        Checks.due("blank at the new size", Checks.picture(t), "^........|........|........|........");
    }

    private static void greatestReflow() {
        ReflowTerminal t = new ReflowTerminal(16, 8, 16);
        for (int i = 0; i < 24 * 16; i++) {
            t.put('A' + i % 26);
        }
        Checks.due("one line", t.lineLength(0), 384);
        Checks.due("offset", t.info(ReflowTerminal.INFO_CURSOR_OFFSET), 383);
        Checks.due("resize(4, 2)", t.resize(4, 2), 96 - 18);
        Checks.due("what is left", t.lineLength(0), 72);
        Checks.due("its last character", t.lineChar(0, 71), 'A' + 383 % 26);
        Checks.due("cursor", Checks.cursor(t), "1,3");
    }

    public static void main(String[] args) {
        reflowing();
        sameSize();
        scrollbackComesBack();
        lostAtTheFront();
        lostBelow();
        lostAtBothEnds();
        cursorPastTheText();
        blankEndsAreDropped();
        pendingGoes();
        clamping();
        alternateMode();
        savedCursorMoves();
        savedPendingGoes();
        alternateCursorInside();
        alternateAfterMainResize();
        greatestReflow();
        Checks.finish();
    }
}
