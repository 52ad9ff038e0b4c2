/** Promises 38 to 45: questions about the text. */
final class TextTest {
    private TextTest() {
    }

    static void run() {
        promise38();
        promise39();
        promise40();
        promise41();
        promise42();
        promise43();
        promise44();
        promise45();
    }

    private static void promise38() {
        Room x = Check.room("ab, c_1\n\n-x\n");
        Check.due("P38 letters", 12, () -> x.count(0));
        Check.due("P38 lines", 4, () -> x.count(1));
        Check.cursors(x, 1, 2, 12);
        Check.due("P38 cursors", 3, () -> x.count(2));
        x.setMark(3, 1, true);
        x.setMark(4, 0, true);
        Check.due("P38 marks", 2, () -> x.count(3));
        x.fold(0, 2);
        Check.due("P38 hidden lines", 2, () -> x.count(4));
        Check.tape(x, "abc");
        Check.due("P38 tape", 3, () -> x.count(5));
        x.copy(1, 5);
        Check.due("P38 clip", 4, () -> x.count(6));
        x.copyBlock(0, 4, 0, 5);
        Check.due("P38 block", 20, () -> x.count(6));
        Check.due("P38 words", 3, () -> x.count(7));
        Check.due("P38 words of one letter", 2, () -> Check.room("a b").count(7));
        Check.due("P38 no words", 0, () -> Check.room(" -\n\t").count(7));
        Check.dueThrow("P38 below", IllegalArgumentException.class, () -> x.count(-1));
        Check.dueThrow("P38 above", IllegalArgumentException.class, () -> x.count(8));
    }

    private static void promise39() {
        Room x = Check.room("a\n\t ~");
        Check.due("P39 letter", 97, () -> x.letterAt(0));
        Check.due("P39 line end", 10, () -> x.letterAt(1));
        Check.due("P39 tab", 9, () -> x.letterAt(2));
        Check.due("P39 last", 126, () -> x.letterAt(4));
        Check.dueThrow("P39 the end", IndexOutOfBoundsException.class, () -> x.letterAt(5));
        Check.dueThrow("P39 below", IndexOutOfBoundsException.class, () -> x.letterAt(-1));
        Check.dueThrow("P39 empty", IndexOutOfBoundsException.class, () -> new Room().letterAt(0));
    }

    private static void promise40() {
        Room x = Check.room("ab\n\nc\n");
        int[] lines = {0, 0, 0, 1, 2, 2, 3};
        for (int place = 0; place < lines.length; place++) {
            int p = place;
            Check.due("P40 line of " + p, lines[p], () -> x.lineOf(p));
        }
        Check.dueThrow("P40 above", IndexOutOfBoundsException.class, () -> x.lineOf(7));
        Check.dueThrow("P40 below", IndexOutOfBoundsException.class, () -> x.lineOf(-1));
        Room y = Check.room("\n".repeat(299));
        Check.due("P40 line 299", 299, () -> y.lineOf(299));
        Check.due("P40 line 255", 255, () -> y.lineOf(255));
    }

    private static void promise41() {
        Room x = Check.room("ab\tc\t\td\n\te");
        int[] columns = {0, 1, 2, 4, 5, 8, 12, 13, 0, 4, 5};
        for (int place = 0; place < columns.length; place++) {
            int p = place;
            Check.due("P41 column of " + p, columns[p], () -> x.columnOf(p));
        }
        x.setTab(1);
        Check.due("P41 width 1", 7, () -> x.columnOf(7));
        x.setTab(8);
        Check.due("P41 width 8", 16, () -> x.columnOf(5));
        x.setTab(3);
        Check.due("P41 width 3", 3, () -> x.columnOf(3));
        Check.due("P41 behind a tab at a multiple", 9, () -> x.columnOf(6));
        Check.dueThrow("P41 above", IndexOutOfBoundsException.class, () -> x.columnOf(11));
        Check.dueThrow("P41 below", IndexOutOfBoundsException.class, () -> x.columnOf(-1));
    }

    private static void promise42() {
        Room x = Check.room("ab\tcd\n\n\te");
        int[] places = {0, 1, 2, 3, 3, 4, 5, 5};
        for (int column = 0; column < places.length; column++) {
            int c = column;
            Check.due("P42 column " + c, places[c], () -> x.placeAt(0, c));
        }
        Check.due("P42 far right", 5, () -> x.placeAt(0, Integer.MAX_VALUE));
        Check.due("P42 empty line", 6, () -> x.placeAt(1, 3));
        Check.due("P42 last line", 8, () -> x.placeAt(2, 1));
        Check.due("P42 its end", 9, () -> x.placeAt(2, 9));
        Check.dueThrow("P42 line first", IndexOutOfBoundsException.class, () -> x.placeAt(3, -1));
        Check.dueThrow("P42 line below", IndexOutOfBoundsException.class, () -> x.placeAt(-1, 0));
        Check.dueThrow("P42 column below", IllegalArgumentException.class, () -> x.placeAt(0, -1));
    }

    private static void promise43() {
        Room x = Check.room("\ta");
        Check.due("P43 first", 4, () -> x.setTab(8));
        Check.due("P43 used", 8, () -> x.columnOf(1));
        Check.due("P43 then", 8, () -> x.setTab(1));
        Check.dueThrow("P43 0", IllegalArgumentException.class, () -> x.setTab(0));
        Check.dueThrow("P43 9", IllegalArgumentException.class, () -> x.setTab(9));
        Check.due("P43 unchanged", 1, () -> x.setTab(4));
        x.undo(1);
        Check.due("P43 not undone", 4, () -> x.setTab(4));
    }

    private static void promise44() {
        Check.due("P44 empty", 0, () -> new Room().hash());
        for (String text : new String[] {"a", "ab\tc\n", "a long text that goes round and round ~~~"}) {
            Check.due("P44 " + text.length(), text.hashCode(), () -> Check.room(text).hash());
        }
    }

    private static void promise45() {
        Check.due("P45 empty", 0.0, new Room().meanLine());
        Check.due("P45 thirds", 4.0 / 3.0, Check.room("ab\n\ncd").meanLine());
        Check.due("P45 line ends alone", 0.0, Check.room("\n\n").meanLine());
        Check.due("P45 one line", 5.0, Check.room("a b\tc").meanLine());
    }
}
