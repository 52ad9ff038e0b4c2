/** The bounds of the text, of its lines and of the cursors, all reached at once: each call still answers. */
final class BoundTest {
    private BoundTest() {
    }

    static void run() {
        fullText();
        eightCursors();
        emptyText();
        staleLetters();
    }

    /** 3000 letters in 300 lines; the last line is ten blanks. */
    private static Room full() {
        return Check.room("ab\tcd ef \n".repeat(299) + " ".repeat(10));
    }

    private static void fullText() {
        Room x = full();
        Check.due("bounds: letters", 3000, () -> x.count(0));
        Check.due("bounds: lines", 300, () -> x.count(1));
        Check.due("bounds: words", 897, () -> x.count(7));
        Check.due("bounds: fold", 299, () -> x.fold(0, 299));
        Check.due("bounds: rows", -1, () -> x.rowOf(0, 9));
        x.setView(0, 5000, 40);
        Check.due("bounds: last row", -1, () -> x.rowOf(0, 39));
        Check.due("bounds: unfold", 299, () -> x.unfold(299));
        Check.due("bounds: row 0", 299, () -> x.rowOf(0, 0));
        Check.due("bounds: row 1", -1, () -> x.rowOf(0, 1));
        Check.due("bounds: the end", 299, () -> x.lineOf(3000));
        Check.due("bounds: its column", 10, () -> x.columnOf(3000));
        Check.due("bounds: place", 3000, () -> x.placeAt(299, 11));
        x.setCursor(3000);
        for (int way = Cursorroom.LETTERS; way <= Cursorroom.PARAGRAPHS; way++) {
            x.moveCursors(way, 50);
        }
        Check.due("bounds: cursor at the end", "3000", Check.cursors(x));
        Check.due("bounds: erase behind", 0, () -> x.erase(100));
        x.setCursor(0);
        x.moveCursors(Cursorroom.PARAGRAPHS, 50);
        Check.due("bounds: no other paragraph", "3000", Check.cursors(x));
        Check.due("bounds: copy up to the end", 10, () -> x.copy(2990, 3000));
        Check.dueThrow("bounds: wrap the last line", IllegalStateException.class, () -> x.wrap(299, 3));
        Check.due("bounds: remove blanks", 1, () -> x.indent(299, 299, -8));
        Check.due("bounds: two are left", 2, () -> x.erase(-2));
        x.undo(2);
        Check.due("bounds: join", 1, () -> x.joinLines(0, 299));
        Check.due("bounds: joined letters", 2990, () -> x.count(0));
        Check.due("bounds: wrapped again", 299, () -> x.wrap(0, 9));
        x.undo(2);
        Check.tape(x, " ");
        Check.due("bounds: blanks", 608, () -> x.setPattern(false));
        Check.due("bounds: each replaced", 608, x::replaceAll);
        Check.due("bounds: last find", 2999, () -> x.find(3000, false));
        Check.due("bounds: mean", 2701.0 / 300.0, x.meanLine());
        x.keep();
        Check.due("bounds: differences", 0, x::differences);
        Check.due("bounds: block", 2701, () -> x.copyBlock(0, 300, 0, 40));
        Check.due("bounds: letters of the block", 12000, () -> x.count(6));
        Check.dueThrow("bounds: paste it", IllegalStateException.class, x::paste);
        Check.due("bounds: errors", 0, x::errors);
        Check.due("bounds: all removed", 3000, () -> x.cut(0, 3000));
        Check.due("bounds: the clip", 3000, () -> x.count(6));
        Check.due("bounds: all back", 3000, x::paste);
        Check.dueThrow("bounds: one more", IllegalStateException.class, x::paste);
        wrapAtTheEnd();
    }

    private static void wrapAtTheEnd() {
        Room x = Check.room("a".repeat(3000));
        Check.due("bounds: no blank", 0, () -> x.wrap(0, 100));
        Check.due("bounds: no line end", 1, () -> x.joinLines(0, 0));
        x.setCursor(0);
        x.moveCursors(Cursorroom.WORDS, 1);
        Check.due("bounds: behind the word", "3000", Check.cursors(x));
        x.moveCursors(Cursorroom.WORDS, -1);
        Check.due("bounds: ahead of it", "0", Check.cursors(x));
        Check.due("bounds: one letter a find", 3000, () -> {
            Check.tape(x, "a");
            return x.setPattern(false);
        });
        Check.tape(x, "\n");
        Check.dueThrow("bounds: 3001 lines", IllegalStateException.class, x::replaceAll);
        x.clearTape();
        Check.due("bounds: 3000 parts", 3000, x::replaceAll);
        Check.due("bounds: empty", 0, () -> x.count(0));
    }

    private static void eightCursors() {
        Room x = Check.room("abcdefgh\nijklmnop\n");
        Check.cursors(x, 0, 2, 4, 6, 8, 10, 12, 18);
        Check.tape(x, "-");
        Check.due("bounds: type at eight", 26, x::type);
        Check.due("bounds: eight cursors", "1 4 7 10 13 16 19 26", Check.cursors(x));
        Check.due("bounds: erase at eight", 8, () -> x.erase(-1));
        Check.due("bounds: text", "abcdefgh\nijklmnop\n", Check.text(x));
        Check.due("bounds: move eight", 8, () -> x.moveCursors(Cursorroom.LETTERS, 0));
        Check.due("bounds: seven", 7, () -> x.moveCursors(Cursorroom.LETTERS, -2));
        Check.due("bounds: two", 2, () -> x.moveCursors(Cursorroom.ENDS, 1));
        x.undo(1);
        Check.due("bounds: eight again", 8, () -> x.count(2));
    }

    private static void emptyText() {
        Room x = new Room();
        Check.due("bounds: wrap nothing", 0, () -> x.wrap(0, 1));
        Check.due("bounds: join nothing", 1, () -> x.joinLines(0, 0));
        Check.due("bounds: indent nothing", 0, () -> x.indent(0, 0, 8));
        Check.due("bounds: outdent nothing", 0, () -> x.indent(0, 0, -8));
        Check.due("bounds: copy nothing", 0, () -> x.copy(0, 0));
        Check.due("bounds: cut nothing", 0, () -> x.cut(0, 0));
        Check.due("bounds: no letters of a block", 0, () -> x.copyBlock(0, 1, 0, 2));
        Check.due("bounds: its blanks", 2, x::paste);
        x.undo(1);
        for (int way = Cursorroom.LETTERS; way <= Cursorroom.PARAGRAPHS; way++) {
            int w = way;
            Check.due("bounds: way " + w, 1, () -> x.moveCursors(w, 50));
            Check.due("bounds: way back " + w, 1, () -> x.moveCursors(w, -50));
        }
        Check.due("bounds: row", 0, () -> x.rowOf(0, 0));
        Check.due("bounds: place", 0, () -> x.placeAt(0, 5));
        Check.due("bounds: column", 0, () -> x.columnOf(0));
        Check.due("bounds: errors", 0, x::errors);
    }

    /** Letters, lines and cursors that are no more must not count again. */
    private static void staleLetters() {
        Room x = Check.room("a b\n   \n  ");
        x.clearTape();
        x.replace(1, 10);
        x.undo(1);
        x.replace(4, 10);
        Check.due("gone: no blanks", 1, () -> x.joinLines(0, 1));
        Check.due("gone: text", "a b ", Check.text(x));
        Room y = Check.room("ab\n  cd");
        y.replace(3, 7);
        y.replace(3, 3);
        Check.due("gone: blanks behind the end", 0, () -> y.indent(1, 1, -8));
        Room z = Check.room("word word word");
        z.replace(4, 14);
        z.setCursor(0);
        z.moveCursors(Cursorroom.WORDS, 50);
        Check.due("gone: words", "4", Check.cursors(z));
        Check.due("gone: count of words", 1, () -> z.count(7));
        Room v = Check.room("abcdef");
        Check.cursors(v, 0, 3, 5);
        v.setCursor(1);
        Check.due("gone: cursors", 1, () -> v.erase(1));
    }
}
