/** Promises 21 to 28: cursors and marks. */
final class PlaceTest {
    private PlaceTest() {
    }

    static void run() {
        promise21();
        promise22();
        letters();
        lines();
        words();
        ends();
        paragraphs();
        promise23();
        promise24();
        promise25();
        promise26();
        promise27();
        promise28();
    }

    private static void promise21() {
        Room x = Check.room("abc\nd\ne");
        Check.cursors(x, 0, 2, 3);
        Check.due("P21 how many there were", 3, () -> x.setCursor(2));
        Check.due("P21 one", "2", Check.cursors(x));
        Check.due("P21 the end", 1, () -> x.setCursor(7));
        Check.dueThrow("P21 below", IndexOutOfBoundsException.class, () -> x.setCursor(-1));
        Check.dueThrow("P21 above", IndexOutOfBoundsException.class, () -> x.setCursor(8));
        Check.due("P21 unchanged", "7", Check.cursors(x));
        x.fold(0, 1);
        x.setCursor(4);
        Check.due("P21 opens the fold", "", Check.hidden(x));
    }

    private static void promise22() {
        Room x = Check.room("abcdefgh\ni\nj");
        for (int place = 7; place > 0; place--) {
            int p = place;
            Check.due("P22 added", 9 - place, () -> x.addCursor(p));
        }
        Check.due("P22 in order", "0 1 2 3 4 5 6 7", Check.cursors(x));
        Check.dueThrow("P22 a ninth", IllegalStateException.class, () -> x.addCursor(8));
        Check.dueThrow("P22 place first", IndexOutOfBoundsException.class, () -> x.addCursor(13));
        Check.dueThrow("P22 below", IndexOutOfBoundsException.class, () -> x.addCursor(-1));
        Check.due("P22 one that is there", 8, () -> x.addCursor(3));
        Check.due("P22 the first one again", 8, () -> x.addCursor(0));
        Check.due("P22 the last one again", 8, () -> x.addCursor(7));
        x.fold(0, 1);
        x.setCursor(0);
        Check.due("P22 the same", 1, () -> x.addCursor(0));
        Check.due("P22 still hidden", "1", Check.hidden(x));
        x.addCursor(10);
        Check.due("P22 opens the fold", "", Check.hidden(x));
    }

    private static String moved(String text, int way, int by, int... cursors) {
        Room x = Check.room(text);
        Check.cursors(x, cursors);
        int many = x.moveCursors(way, by);
        return many + ":" + Check.cursors(x);
    }

    private static void letters() {
        Check.due("P23 letters", "2:3 5", moved("abcdef", 0, 2, 1, 3));
        Check.due("P23 letters back", "2:0 1", moved("abcdef", 0, -2, 1, 3));
        Check.due("P23 letters to the end", "1:6", moved("abcdef", 0, 50, 1, 3));
        Check.due("P23 letters to the beginning", "1:0", moved("abcdef", 0, -50, 1, 3));
        Check.due("P23 by 0", "2:1 3", moved("abcdef", 0, 0, 1, 3));
    }

    private static void lines() {
        Check.due("P23 a line", "1:6", moved("abc\ndef\ng", 1, 1, 2));
        Check.due("P23 end of a shorter line", "1:9", moved("abc\ndef\ng", 1, 2, 2));
        Check.due("P23 as far as there are", "1:9", moved("abc\ndef\ng", 1, 50, 2));
        Check.due("P23 lines back", "1:0", moved("abc\ndef\ng", 1, -50, 8));
        Check.due("P23 none there", "1:2", moved("abc\ndef\ng", 1, -1, 2));
        Check.due("P23 behind a tab", "1:5", moved("abc\n\td\ne", 1, 1, 3));
        Check.due("P23 column of a tab", "1:5", moved("abc\n\td", 1, 1, 1));
        Check.due("P23 column 4", "1:8", moved("a\tb\nabcdefgh", 1, 1, 2));
        Check.due("P23 they come together", "1:6", moved("abc\nd\n", 1, 50, 3, 4));
        Check.due("P23 turned round", "2:6 8", moved("abcde\nfgh", 1, 1, 2, 6));
        Room x = Check.room("a\nb\nc\nd\ne");
        x.fold(0, 2);
        Check.due("P23 over hidden lines", 1, () -> x.moveCursors(1, 1));
        Check.due("P23 behind the fold", "6", Check.cursors(x));
        Check.due("P23 fold stays", "1 2", Check.hidden(x));
        x.moveCursors(1, -1);
        Check.due("P23 back over it", "0", Check.cursors(x));
        x.moveCursors(1, 2);
        Check.due("P23 two lines that are shown", "8", Check.cursors(x));
        x.fold(0, 3);
        x.moveCursors(1, -2);
        Check.due("P23 as far as shown ones are", "0", Check.cursors(x));
        x.fold(0, 4);
        x.moveCursors(1, 3);
        Check.due("P23 none is shown", "0", Check.cursors(x));
        x.moveCursors(0, 2);
        Check.due("P23 a letter into the fold opens it", "", Check.hidden(x));
    }

    private static void words() {
        Check.due("P23 end of the word", "1:3", moved("abc de_1 - f", 2, 1, 0));
        Check.due("P23 inside", "1:3", moved("abc de_1 - f", 2, 1, 1));
        Check.due("P23 next word", "1:8", moved("abc de_1 - f", 2, 1, 3));
        Check.due("P23 over signs", "1:12", moved("abc de_1 - f", 2, 3, 0));
        Check.due("P23 to the end", "1:12", moved("abc de_1 - f", 2, 50, 0));
        Check.due("P23 word back", "1:11", moved("abc de_1 - f", 2, -1, 12));
        Check.due("P23 back over signs", "1:4", moved("abc de_1 - f", 2, -1, 11));
        Check.due("P23 to the beginning", "1:0", moved("abc de_1 - f", 2, -3, 12));
        Check.due("P23 signs at the beginning", "1:0", moved("-- a", 2, -1, 3));
        Check.due("P23 signs at the end", "1:4", moved("a --", 2, 1, 1));
        Check.due("P23 letters of words", "1:7", moved("AZaz09_[", 2, 1, 0));
        Check.due("P23 letters of words back", "1:1", moved("[AZaz09_", 2, -1, 8));
        Check.due("P23 others", "1:9", moved("@[`{/:^-A", 2, 1, 0));
        Check.due("P23 over line ends", "1:4", moved("a\n\nb c", 2, 2, 0));
        Check.due("P23 words by 0", "2:1 2", moved("abc", 2, 0, 1, 2));
    }

    private static void ends() {
        Check.due("P23 ends", "2:3 7", moved("abc\ndef\n", 3, 1, 1, 7));
        Check.due("P23 ends, many times", "1:3", moved("abc\ndef", 3, 50, 0, 2));
        Check.due("P23 beginnings", "2:0 4", moved("abc\ndef", 3, -7, 3, 6));
        Check.due("P23 ends by 0", "1:1", moved("abc\ndef", 3, 0, 1));
        Check.due("P23 end of the text", "1:7", moved("abc\ndef", 3, 1, 5));
    }

    private static void paragraphs() {
        // Paragraphs begin at the places 0, 7 and 13; 14 is the end.
        String text = "a\nb\n \t\nc\nd\n\n\ne";
        Check.due("P23 next paragraph", "1:7", moved(text, 4, 1, 0));
        Check.due("P23 from inside", "1:7", moved(text, 4, 1, 2));
        Check.due("P23 from its beginning", "1:13", moved(text, 4, 1, 7));
        Check.due("P23 two", "1:13", moved(text, 4, 2, 0));
        Check.due("P23 the end", "1:14", moved(text, 4, 3, 0));
        Check.due("P23 paragraph back", "1:7", moved(text, 4, -1, 13));
        Check.due("P23 back from inside", "1:7", moved(text, 4, -1, 8));
        Check.due("P23 back from its beginning", "1:0", moved(text, 4, -1, 7));
        Check.due("P23 back twice", "1:0", moved(text, 4, -2, 10));
        Check.due("P23 place 0", "1:0", moved("\n\na", 4, -1, 2));
        Check.due("P23 first blank line", "1:2", moved("\n\na", 4, 1, 0));
        Check.due("P23 blank at the end", "1:4", moved("a\n\n ", 4, 1, 0));
        Check.due("P23 by 0", "2:1 4", moved(text, 4, 0, 1, 4));
        Check.due("P23 they become one", "1:7", moved(text, 4, 1, 0, 1, 5));
    }

    private static void promise23() {
        Room x = Check.room("abc");
        Check.dueThrow("P23 way below", IllegalArgumentException.class, () -> x.moveCursors(-1, 1));
        Check.dueThrow("P23 way above", IllegalArgumentException.class, () -> x.moveCursors(5, 0));
        Check.dueThrow("P23 by below", IllegalArgumentException.class, () -> x.moveCursors(0, -51));
        Check.dueThrow("P23 by above", IllegalArgumentException.class, () -> x.moveCursors(0, 51));
        Check.due("P23 unchanged", "0", Check.cursors(x));
        x.moveCursors(Cursorroom.LETTERS, 1);
        x.moveCursors(Cursorroom.ENDS, 1);
        Check.due("P23 no act", 1, () -> x.acts(0));
        Check.due("P23 ways", "01234", "" + Cursorroom.LETTERS + Cursorroom.LINES + Cursorroom.WORDS
                + Cursorroom.ENDS + Cursorroom.PARAGRAPHS);
    }

    private static void promise24() {
        Room x = Check.room("abcd");
        Check.cursors(x, 4, 1);
        Check.due("P24 first", 1, () -> x.cursorAt(0));
        Check.due("P24 second", 4, () -> x.cursorAt(1));
        Check.dueThrow("P24 third", IndexOutOfBoundsException.class, () -> x.cursorAt(2));
        Check.dueThrow("P24 below", IndexOutOfBoundsException.class, () -> x.cursorAt(-1));
        Check.dueThrow("P24 far", IndexOutOfBoundsException.class, () -> x.cursorAt(Integer.MAX_VALUE));
    }

    private static void promise25() {
        Room x = Check.room("abcd");
        Check.due("P25 not set", -1, () -> x.setMark(15, 4, false));
        Check.due("P25 set again", 4, () -> x.setMark(15, 2, true));
        Check.due("P25 place", 2, () -> x.markAt(15));
        Check.tape(x, "-");
        x.replace(2, 2);
        Check.due("P25 leans as set last", 2, () -> x.setMark(15, 2, false));
        x.replace(2, 2);
        Check.due("P25 leans right then", 3, () -> x.markAt(15));
        Check.dueThrow("P25 mark 16", IndexOutOfBoundsException.class, () -> x.setMark(16, 0, true));
        Check.dueThrow("P25 mark -1", IndexOutOfBoundsException.class, () -> x.setMark(-1, 0, true));
        Check.dueThrow("P25 place above", IndexOutOfBoundsException.class, () -> x.setMark(0, 7, true));
        Check.dueThrow("P25 place below", IndexOutOfBoundsException.class, () -> x.setMark(0, -1, true));
        Check.due("P25 none set", "15:3", Check.marks(x));
    }

    private static void promise26() {
        Room x = Check.room("abcd");
        Check.due("P26 not set", -1, () -> x.dropMark(0));
        x.setMark(0, 3, true);
        Check.due("P26 place", 3, () -> x.dropMark(0));
        Check.due("P26 gone", "", Check.marks(x));
        Check.due("P26 count", 0, () -> x.count(3));
        Check.dueThrow("P26 mark 16", IndexOutOfBoundsException.class, () -> x.dropMark(16));
        Check.dueThrow("P26 mark -1", IndexOutOfBoundsException.class, () -> x.dropMark(-1));
    }

    private static void promise27() {
        Room x = Check.room("abcd");
        x.setMark(7, 0, true);
        Check.due("P27 place", 0, () -> x.markAt(7));
        Check.due("P27 not set", -1, () -> x.markAt(8));
        Check.dueThrow("P27 mark 16", IndexOutOfBoundsException.class, () -> x.markAt(16));
        Check.dueThrow("P27 mark -1", IndexOutOfBoundsException.class, () -> x.markAt(-1));
    }

    private static void promise28() {
        Room x = Check.room("abcdefgh");
        Check.due("P28 none", -1, () -> x.markBeside(4, true));
        x.setMark(5, 3, true);
        x.setMark(2, 3, false);
        x.setMark(9, 6, false);
        x.setMark(0, 6, false);
        Check.due("P28 forward", 0, () -> x.markBeside(4, true));
        Check.due("P28 back", 2, () -> x.markBeside(5, false));
        Check.due("P28 at the place", 2, () -> x.markBeside(3, true));
        Check.due("P28 at the place, back", 0, () -> x.markBeside(6, false));
        Check.due("P28 none behind", -1, () -> x.markBeside(7, true));
        Check.due("P28 none ahead", -1, () -> x.markBeside(2, false));
        Check.due("P28 from the beginning", 2, () -> x.markBeside(0, true));
        Check.due("P28 from the end", 0, () -> x.markBeside(8, false));
        Check.dueThrow("P28 above", IndexOutOfBoundsException.class, () -> x.markBeside(9, true));
        Check.dueThrow("P28 below", IndexOutOfBoundsException.class, () -> x.markBeside(-1, true));
    }
}
