/** Each sentence of the promises 6 to 10, at its edges: acts that put the tape or the clip, or remove letters. */
final class EdgeActTest {
    private EdgeActTest() {
    }

    static void run(Document document) {
        promise06(new Edge(document, "P6"));
        promise07(new Edge(document, "P7"));
        promise07Refused(new Edge(document, "P7"));
        promise08(new Edge(document, "P8"));
        promise08Refused(new Edge(document, "P8"));
        promise09(new Edge(document, "P9"));
        promise09Refused(new Edge(document, "P9"));
        promise10(new Edge(document, "P10"));
        promise10Blocks(new Edge(document, "P10"));
        promise10Refused(new Edge(document, "P10"));
    }

    /** So many letters in one line, with these letters on the tape. */
    private static Room letters(int many, String tape) {
        Room x = Edge.letters(many);
        Check.tape(x, tape);
        return x;
    }

    /** So many empty lines, with these letters on the tape. */
    private static Room lines(int many, String tape) {
        Room x = Edge.lines(many);
        Check.tape(x, tape);
        return x;
    }

    private static Room at(Room x, int... places) {
        Check.cursors(x, places);
        return x;
    }

    private static void promise06(Edge e) {
        e.says("Puts the letters of the tape at each cursor");
        Room x = at(Check.room("abcdefg"), 0, 1, 2, 3, 4, 5, 6, 7);
        Check.tape(x, "-\n");
        x.type();
        e.dueText("at eight cursors, the beginning and the end among them", "-\na-\nb-\nc-\nd-\ne-\nf-\ng-\n", x);
        e.due("each cursor is behind its letters", "2 5 8 11 14 17 20 23", Check.cursors(x));
        Room full = letters(0, "b".repeat(200));
        full.type();
        e.dueText("all 200 letters of a full tape, into an empty text", "b".repeat(200), full);
        e.nothing("an empty tape", 3, () -> Check.room("abc"), Room::type);

        e.says("Returns the length of the text");
        e.due("an empty text", 0, () -> new Room().type());
        e.due("one letter", 1, () -> letters(0, "b").type());
        e.due("3000 letters", 3000, () -> letters(2999, "b").type());
        e.due("an empty tape and a full text", 3000, () -> letters(3000, "").type());

        e.says("if it is refused");
        e.refused("3001 letters", Edge.STATE, () -> letters(3000, "b"), Room::type);
        e.refused("a full tape up to 3001", Edge.STATE, () -> letters(2801, "b".repeat(200)), Room::type);
        e.due("a full tape up to 3000", 3000, () -> letters(2800, "b".repeat(200)).type());
        e.refused("eight cursors up to 3001", Edge.STATE, () -> at(letters(2993, "b"), 0, 1, 2, 3, 4, 5, 6, 2993), Room::type);
        e.due("eight cursors up to 3000", 3000, () -> at(letters(2992, "b"), 0, 1, 2, 3, 4, 5, 6, 7).type());
        e.refused("301 lines", Edge.STATE, () -> lines(300, "\n"), Room::type);
        e.due("300 lines", 299, () -> lines(299, "\n").type());
        e.refused("two cursors up to 301 lines", Edge.STATE, () -> at(lines(299, "a\n"), 0, 5), Room::type);
        e.due("two cursors up to 300 lines", 301, () -> at(lines(298, "a\n"), 0, 5).type());
        e.due("300 lines get a letter", 300, () -> lines(300, "a").type());
        e.refused("the act 151", Edge.STATE, UndoTest::full, Room::type);
    }

    private static void promise07(Edge e) {
        e.says("for many above 0 so many letters behind it, for many below 0 so many letters ahead of it, as far as");
        Room x = at(Check.room("abcdefgh"), 2, 5);
        x.erase(1);
        e.dueText("1 behind each", "abdegh", x);
        x.erase(-1);
        e.dueText("1 ahead of each", "adgh", x);
        e.due("the cursors", "1 2", Check.cursors(x));
        Room y = at(Check.room("abcdefgh"), 6);
        y.erase(3);
        e.dueText("two of three letters behind it", "abcdef", y);
        y.erase(-7);
        e.dueText("six of seven letters ahead of it", "", y);
        e.nothing("none behind the end", 0, () -> at(Check.room("abc"), 3), r -> r.erase(1));
        e.nothing("none ahead of the beginning", 0, () -> Check.room("abc"), r -> r.erase(-1));
        e.nothing("by 0", 0, () -> at(Check.room("abc"), 1), r -> r.erase(0));
        e.nothing("an empty text", 0, Room::new, r -> r.erase(100) + r.erase(-100));
        e.due("letters that are gone are none", 1, () -> at(Edge.gone("ab", "cd"), 1).erase(100));

        e.says("(What several cursors remove is removed together.)");
        Room z = at(Check.room("abcdefgh"), 1, 3, 6);
        e.due("two that overlap, one that touches", 7, () -> z.erase(3));
        e.dueText("the rest", "a", z);
        e.due("one cursor is left", "1", Check.cursors(z));
        Room ahead = at(Check.room("abcdefgh"), 1, 3, 8);
        e.due("ahead of them", 5, () -> ahead.erase(-2));
        e.dueText("the rest then", "def", ahead);
        e.due("two cursors are left", "0 3", Check.cursors(ahead));
        Room eight = at(Check.room("abcdefgh"), 0, 1, 2, 3, 4, 5, 6, 7);
        e.due("eight cursors", 8, () -> eight.erase(100));
        e.due("in one act", 1, () -> eight.undo(1));
        e.due("eight cursors again", 8, () -> eight.count(2));

        e.says("`many`: -100 to 100");
        e.due("100", 100, () -> at(Edge.letters(300), 150).erase(100));
        e.due("-100", 100, () -> at(Edge.letters(300), 150).erase(-100));
        e.due("99 and -99", 198, () -> {
            Room r = at(Edge.letters(300), 150);
            return r.erase(99) + r.erase(-99);
        });

        e.says("Returns how many letters were removed");
        e.due("as many as there are", 40, () -> Edge.letters(40).erase(100));
        e.due("line ends too", 3, () -> Check.room("a\n\n").erase(3));
        e.due("each once", 5, () -> at(Check.room("abcdefgh"), 1, 2).erase(4));
    }

    private static void promise07Refused(Edge e) {
        e.says("if many is out of range");
        e.refused("101", Edge.ARGUMENT, r -> r.erase(101));
        e.refused("-101", Edge.ARGUMENT, r -> r.erase(-101));
        e.refused("far above", Edge.ARGUMENT, r -> r.erase(Integer.MAX_VALUE));
        e.refused("far below", Edge.ARGUMENT, r -> r.erase(Integer.MIN_VALUE));
        e.refused("101 with 150 acts", Edge.ARGUMENT, UndoTest::full, r -> r.erase(101));

        e.says("if it is refused");
        e.refused("the act 151", Edge.STATE, UndoTest::full, r -> r.erase(-1));
        e.due("nothing behind the end is no act", 0, () -> UndoTest.full().erase(100));
    }

    private static void promise08(Edge e) {
        e.says("Replaces a part of the text by the letters of the tape");
        Room x = Check.room("abcdef");
        Check.tape(x, "XY");
        x.replace(0, 1);
        x.replace(6, 7);
        x.replace(3, 3);
        e.dueText("at the beginning, at the end, none in the middle", "XYbXYcdeXY", x);
        x.replace(0, 10);
        e.dueText("all of it", "XY", x);
        x.clearTape();
        x.replace(0, 2);
        e.dueText("by none", "", x);

        e.says("`from`: the place at which it begins");
        e.due("0", 2, () -> letters(3, "b").replace(0, 2));
        e.due("the end", 4, () -> letters(3, "b").replace(3, 3));
        e.due("the end of a full text", 3000, () -> letters(3000, "").replace(3000, 3000));

        e.says("`to`: the place at which it ends");
        e.due("0", 4, () -> letters(3, "b").replace(0, 0));
        e.due("the end", 1, () -> letters(3, "b").replace(0, 3));
        e.due("the end of a full text", 200, () -> letters(3000, "b".repeat(200)).replace(0, 3000));

        e.says("Returns the length of the text");
        e.due("empty", 0, () -> letters(3, "").replace(0, 3));
        e.due("3000", 3000, () -> letters(2999, "b").replace(0, 0));
    }

    private static void promise08Refused(Edge e) {
        e.says("if there is no such place, of either");
        e.refused("from -1", Edge.INDEX, r -> r.replace(-1, 0));
        e.refused("to behind the end", Edge.INDEX, r -> r.replace(0, 38));
        e.refused("both behind the end", Edge.INDEX, r -> r.replace(38, 38));
        e.refused("from behind the end, greater than to", Edge.INDEX, r -> r.replace(Integer.MAX_VALUE, 0));
        e.refused("to below 0, less than from", Edge.INDEX, r -> r.replace(0, Integer.MIN_VALUE));
        e.refused("with 150 acts", Edge.INDEX, UndoTest::full, r -> r.replace(0, 151));

        e.says("if from is greater than to");
        e.refused("by one", Edge.ARGUMENT, r -> r.replace(1, 0));
        e.refused("from the end", Edge.ARGUMENT, r -> r.replace(37, 36));
        e.refused("with 150 acts", Edge.ARGUMENT, UndoTest::full, r -> r.replace(1, 0));

        e.says("if it is refused");
        e.refused("3001 letters", Edge.STATE, () -> letters(3000, "bc"), r -> r.replace(7, 8));
        e.due("3000 letters", 3000, () -> letters(3000, "bc").replace(7, 9));
        e.refused("301 lines", Edge.STATE, () -> lines(300, "\n\n"), r -> r.replace(7, 8));
        e.due("300 lines", 299, () -> lines(300, "\n\n").replace(7, 9));
        e.refused("the act 151", Edge.STATE, UndoTest::full, r -> r.replace(0, 0));
        e.refused("the act 151, by the same letters", Edge.STATE, UndoTest::full, r -> r.replace(1, 2));
        e.due("nothing by nothing is no act", 150, () -> {
            Room r = UndoTest.full();
            r.clearTape();
            return r.replace(7, 7);
        });
    }

    private static void promise09(Edge e) {
        e.says("Makes the clip the letters of a part of the text, and removes it");
        Room x = Check.room("abcdef");
        x.cut(1, 3);
        e.dueText("removed", "adef", x);
        x.setCursor(4);
        x.paste();
        e.dueText("the letters of the clip", "adefbc", x);
        Room row = Check.room("ab\ncd");
        row.copyBlock(0, 2, 0, 2);
        row.cut(1, 4);
        row.addCursor(2);
        row.paste();
        e.dueText("a row then, no block any more", "b\ncadb\nc", row);
        x.copyBlock(0, 1, 0, 3);
        x.cut(2, 2);
        e.due("an empty part empties the clip", 0, () -> x.count(6));
        e.due("and is no act", 3, () -> x.acts(0));

        e.says("`from`: the place at which it begins");
        e.due("0", 2, () -> Edge.letters(3).cut(0, 2));
        e.due("the end", 0, () -> Edge.letters(3).cut(3, 3));

        e.says("`to`: the place at which it ends");
        e.due("0", 0, () -> Edge.letters(3).cut(0, 0));
        e.due("the end", 3, () -> Edge.letters(3).cut(0, 3));

        e.says("Returns how many letters it has");
        Room y = Edge.letters(3000);
        e.due("all 3000", 3000, () -> y.cut(0, 3000));
        e.due("which the clip has", 3000, () -> y.count(6));
        e.due("none of an empty text", 0, () -> y.cut(0, 0));
        e.due("which the clip has then", 0, () -> y.count(6));
    }

    private static void promise09Refused(Edge e) {
        e.says("if there is no such place, of either");
        e.refused("from -1", Edge.INDEX, r -> r.cut(-1, 0));
        e.refused("to behind the end", Edge.INDEX, r -> r.cut(0, 38));
        e.refused("both behind the end", Edge.INDEX, r -> r.cut(38, 38));
        e.refused("from behind the end, greater than to", Edge.INDEX, r -> r.cut(38, 0));
        e.refused("to below 0, less than from", Edge.INDEX, r -> r.cut(1, -1));
        e.refused("with 150 acts", Edge.INDEX, UndoTest::full, r -> r.cut(0, 151));

        e.says("if from is greater than to");
        e.refused("by one", Edge.ARGUMENT, r -> r.cut(1, 0));
        e.refused("from the end", Edge.ARGUMENT, r -> r.cut(37, 0));
        e.refused("with 150 acts", Edge.ARGUMENT, UndoTest::full, r -> r.cut(1, 0));

        e.says("if it is refused");
        e.refused("the act 151", Edge.STATE, () -> {
            Room r = UndoTest.full();
            r.copyBlock(0, 2, 0, 1);
            return r;
        }, r -> r.cut(0, 2));
        e.due("nothing is no act", 0, () -> UndoTest.full().cut(0, 0));
    }

    private static Room clip(Room x, int from, int to) {
        x.copy(from, to);
        return x;
    }

    private static Room block(Room x, int line, int lines, int first, int many) {
        x.copyBlock(line, lines, first, many);
        return x;
    }

    private static void promise10(Edge e) {
        e.says("Puts the clip: a row of letters at each cursor; a block at the cursor 0");
        Room x = at(clip(Check.room("abcdefg"), 0, 1), 0, 1, 2, 3, 4, 5, 6, 7);
        x.paste();
        e.dueText("a row at eight cursors", "aaabacadaeafaga", x);
        e.due("each cursor is behind its letters", "1 3 5 7 9 11 13 15", Check.cursors(x));
        e.nothing("an empty row", 3, () -> clip(Check.room("abc"), 1, 1), Room::paste);
        e.nothing("a clip that was never made", 3, () -> Check.room("abc"), Room::paste);
        Room y = at(block(Check.room("ab\ncd\nef"), 0, 2, 0, 2), 1, 4, 8);
        y.paste();
        e.dueText("a block at the cursor 0 alone, a row of it in each line", "aabb\nccdd\nef", y);
        Room full = clip(Edge.letters(1500), 0, 1500);
        e.due("a row of 1500 letters", 3000, full::paste);
        e.due("the clip stays", 1500, () -> full.count(6));

        e.says("Returns the length of the text");
        e.due("empty", 0, () -> new Room().paste());
        e.due("one row of one blank", 1, () -> block(new Room(), 0, 1, 0, 1).paste());
        e.due("3000 letters again", 3000, () -> {
            Room r = Edge.letters(3000);
            r.cut(0, 3000);
            return r.paste();
        });
    }

    private static void promise10Blocks(Edge e) {
        e.says("A line that has fewer letters gets as many blanks at its end first as it lacks; for a line that there is not");
        Room x = at(block(Check.room("xy\nzv\nabcd\nabc\nab\n\nabcde"), 0, 2, 0, 2), 8);
        x.paste();
        e.dueText("none lacks", "xy\nzv\nabxycd\nabzvc\nab\n\nabcde", x);
        Room y = at(block(Check.room("abc\nabc\nab\na\n\nabcd"), 0, 5, 0, 1), 3);
        y.paste();
        e.dueText("the end of the line, none, one, two and three lack", "abca\nabca\nab a\na  a\n    \nabcd", y);
        Room z = at(block(Check.room("ab\ncd\nefgh"), 0, 2, 0, 2), 7);
        z.paste();
        e.dueText("a line that there is not lacks all", "ab\ncd\neabfgh\n cd", z);
        Room end = at(block(Check.room("ab\ncd\nef"), 0, 2, 0, 2), 8);
        end.paste();
        e.dueText("at the end of the text", "ab\ncd\nefab\n  cd", end);
        Room first = at(block(Check.room("ab\ncd"), 0, 2, 0, 2), 3);
        first.paste();
        e.dueText("at the beginning of the last line no blank", "ab\nabcd\ncd", first);
        Room empty = block(Check.room("ab\ncd"), 0, 2, 0, 2);
        empty.replace(0, 5);
        empty.paste();
        e.dueText("into an empty text", "ab\ncd", empty);
        Room two = at(block(Check.room("a\n\n"), 0, 3, 0, 1), 3);
        two.paste();
        e.dueText("two lines that there are not", "a\n\na\n \n ", two);
    }

    /** A first line of so many letters, and a block of two rows for the letter 1498, which the line behind it lacks. */
    private static Room blanks(int many) {
        return at(block(Check.room("a".repeat(many) + "\n" + "a".repeat(37)), 0, 2, 0, 1), 1498);
    }

    /** An empty text, and a block of so many rows of so many blanks. */
    private static Room rows(int rows, int many) {
        Room x = block(Edge.lines(rows), 0, rows, 0, many);
        x.replace(0, rows - 1);
        return x;
    }

    private static void promise10Refused(Edge e) {
        e.says("if it is refused");
        e.refused("a row up to 3001 letters", Edge.STATE, () -> clip(Edge.letters(2900), 0, 101), Room::paste);
        e.due("a row up to 3000 letters", 3000, () -> clip(Edge.letters(2900), 0, 100).paste());
        e.refused("two cursors up to 3001 letters", Edge.STATE, () -> at(clip(Edge.letters(2801), 0, 100), 0, 9), Room::paste);
        e.due("two cursors up to 3000 letters", 3000, () -> at(clip(Edge.letters(2800), 0, 100), 0, 9).paste());
        e.refused("a row up to 301 lines", Edge.STATE, () -> clip(Edge.lines(290), 0, 11), Room::paste);
        e.due("a row up to 300 lines", 299, () -> clip(Edge.lines(290), 0, 10).paste());
        e.refused("a row of 3000 letters twice", Edge.STATE, () -> clip(Edge.letters(3000), 0, 3000), Room::paste);
        e.refused("a block up to 3001 letters", Edge.STATE, () -> block(Edge.letters(2961), 0, 1, 0, 40), Room::paste);
        e.due("a block up to 3000 letters", 3000, () -> block(Edge.letters(2960), 0, 1, 0, 40).paste());
        e.refused("its blanks up to 3001 letters", Edge.STATE, () -> blanks(1500), Room::paste);
        e.due("its blanks up to 3000 letters", 3000, () -> blanks(1499).paste());
        e.refused("a block up to 301 lines", Edge.STATE, () -> at(block(Edge.lines(299), 0, 3, 0, 1), 298), Room::paste);
        e.due("a block up to 300 lines", 301, () -> at(block(Edge.lines(299), 0, 2, 0, 1), 298).paste());
        e.refused("300 rows of 40 letters", Edge.STATE, () -> block(Edge.lines(300), 0, 300, 0, 40), Room::paste);
        e.refused("300 rows of 40 letters into an empty text", Edge.STATE, () -> rows(300, 40), Room::paste);
        e.refused("79 rows of 37 letters and 78 line ends: 3001", Edge.STATE, () -> rows(79, 37), Room::paste);
        e.due("75 rows of 39 letters, 74 line ends and a letter: 3000", 3000, () -> {
            Room r = rows(75, 39);
            Check.tape(r, "a");
            r.replace(0, 0);
            r.setCursor(0);
            return r.paste();
        });
        e.refused("the act 151", Edge.STATE, () -> clip(UndoTest.full(), 0, 1), Room::paste);
        e.refused("the act 151, a block", Edge.STATE, () -> block(UndoTest.full(), 0, 1, 0, 1), Room::paste);
        e.due("an empty row is no act", 150, () -> UndoTest.full().paste());
    }
}
