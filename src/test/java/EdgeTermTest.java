import java.util.function.Supplier;
import java.util.function.ToLongFunction;

/** Each sentence of the terms 1 to 5, at its edges, and what the document says of an object as a whole. */
final class EdgeTermTest {
    private EdgeTermTest() {
    }

    static void run(Document document) {
        whole(new Edge(document, "T0"));
        term1(new Edge(document, "T1"));
        term1Lines(new Edge(document, "T1"));
        term1Rows(new Edge(document, "T1"));
        term1Exceptions(new Edge(document, "T1"));
        term2Nothing(new Edge(document, "T2"));
        term2Parts(new Edge(document, "T2"));
        term2Places(new Edge(document, "T2"));
        term2Bounds(new Edge(document, "T2"));
        term3(new Edge(document, "T3"));
        term3Parts(new Edge(document, "T3"));
        term3Cursors(new Edge(document, "T3"));
        term4Bounds(new Edge(document, "T4"));
        term4(new Edge(document, "T4"));
        term4Groups(new Edge(document, "T4"));
        term5(new Edge(document, "T5"));
    }

    private static Room at(Room x, int... places) {
        Check.cursors(x, places);
        return x;
    }

    private static Room tape(Room x, String letters) {
        Check.tape(x, letters);
        return x;
    }

    private static Room pattern(Room x, String pattern, boolean isWords, String letters) {
        Check.tape(x, pattern);
        x.setPattern(isWords);
        Check.tape(x, letters);
        return x;
    }

    private static void whole(Edge e) {
        e.says("The heart of an editor: a text with many cursors, marks that move, lines that can be hidden");
        Room x = at(Check.room("a\nb\nc"), 0, 1);
        x.setMark(0, 4, true);
        x.fold(1, 2);
        Check.tape(x, "-");
        x.type();
        e.dueText("the text", "-a-\nb\nc", x);
        e.due("cursors, marks, hidden lines", "1 3, 0:6, 2", Check.cursors(x) + ", " + Check.marks(x) + ", " + Check.hidden(x));

        e.says("An object is used for at most 512 calls after it has been made");
        Room y = new Room();
        y.feed('a');
        y.record(true);
        for (int time = 0; y.calls() < Room.MOST_CALLS - 6; time++) {
            y.moveCursors(Cursorroom.LETTERS, time % 3 - 1);
        }
        y.record(false);
        e.due("the call 508", 1, y::type);
        e.due("the call 509", 40, () -> y.play(1));
        e.due("the call 510", 1, () -> y.undo(150));
        e.due("the call 511", 1, () -> y.redo(1));
        e.due("the call 512", 'a', () -> y.letterAt(0));
        e.due("all 512 calls", Room.MOST_CALLS, y.calls());
    }

    private static void term1(Edge e) {
        e.says("The text is a row of at most 3000 letters, in at most 300 lines: line ends (10), tabs (9)");
        Room x = tape(Edge.letters(2999), "b");
        e.due("3000 letters", 3000, x::type);
        e.refused("3001 letters", Edge.STATE, () -> tape(Edge.letters(3000), "b"), Room::type);
        Room lines = tape(Edge.lines(299), "\n");
        lines.type();
        e.due("300 lines", 300, () -> lines.count(1));
        e.refused("301 lines", Edge.STATE, () -> tape(Edge.lines(300), "\n"), Room::type);
        Room both = Check.room("123456789\n".repeat(299) + "1234567890");
        e.due("3000 letters in 300 lines", 3300, () -> both.count(0) + both.count(1));
        StringBuilder all = new StringBuilder("\n\t");
        for (char code = 32; code <= 126; code++) {
            all.append(code);
        }
        e.dueText("all letters that there are", all.toString(), Check.room(all.toString()));

        e.says("A place is a number from 0 to the length of the text: it stands ahead of the letter with this number, or at");
        Room y = tape(Check.room("ab"), "-");
        y.replace(0, 0);
        y.replace(3, 3);
        y.replace(2, 2);
        e.dueText("ahead of the first letter, at the end, ahead of a letter", "-a-b-", y);
        e.refused("-1", Edge.INDEX, r -> r.columnOf(-1));
        e.refused("the length and 1", Edge.INDEX, r -> r.columnOf(38));
        e.due("0 of an empty text", 0, () -> new Room().columnOf(0));
        e.refused("1 of an empty text", Edge.INDEX, Room::new, r -> r.columnOf(1));
    }

    private static void term1Lines(Edge e) {
        e.says("The lines are numbered from 0: a line begins at the place 0 and behind each line end, and ends at its line end");
        Room x = Check.room("ab\n\nc\n");
        e.due("lines", 4, () -> x.count(1));
        int[] begins = {0, 3, 4, 6};
        int[] ends = {2, 3, 5, 6};
        for (int line = 0; line < 4; line++) {
            int number = line;
            e.due("begin of " + line, begins[line], () -> x.placeAt(number, 0));
            e.due("end of " + line, ends[line], () -> x.placeAt(number, 99));
            e.due("line of its begin " + line, line, () -> x.lineOf(begins[number]));
            e.due("line of its end " + line, line, () -> x.lineOf(ends[number]));
        }
        e.due("a line end is none of its letters", 3, () -> x.copyBlock(0, 4, 0, 9));
        e.due("an empty text has one line", 1, () -> new Room().count(1));

        e.says("A line is blank if it has no letters but blanks and tabs");
        String[] blank = {"", " ", "\t", " \t \t"};
        for (String line : blank) {
            Room y = Check.room("a\n" + line + "\nb");
            y.moveCursors(Cursorroom.PARAGRAPHS, 1);
            e.due("blank: \"" + line + "\"", line.length() + 3, () -> y.cursorAt(0));
        }
        String[] notBlank = {"!", " .", "\t~\t", "x "};
        for (String line : notBlank) {
            Room y = Check.room("a\n" + line + "\nb");
            y.moveCursors(Cursorroom.PARAGRAPHS, 1);
            e.due("not blank: \"" + line + "\"", line.length() + 4, () -> y.cursorAt(0));
        }

        e.says("The column of a place is 0 at the beginning of its line; behind a letter it is 1 more than ahead of it, behind");
        Room tabs = Check.room("abc\td\tef\tg\t\t\n\t");
        int[] columns = {0, 1, 2, 3, 4, 5, 8, 9, 10, 12, 13, 16, 20, 0, 4};
        for (int place = 0; place < columns.length; place++) {
            int p = place;
            e.due("tab width 4, place " + place, columns[place], () -> tabs.columnOf(p));
        }
        tabs.setTab(1);
        e.due("tab width 1", 12, () -> tabs.columnOf(12));
        tabs.setTab(8);
        e.due("tab width 8, from 3", 8, () -> tabs.columnOf(4));
        e.due("tab width 8, from 9", 16, () -> tabs.columnOf(6));
        e.due("tab width 8, from 32: the next one is greater", 40, () -> tabs.columnOf(12));
        e.refused("tab width 0", Edge.ARGUMENT, r -> r.setTab(0));
        e.refused("tab width 9", Edge.ARGUMENT, r -> r.setTab(9));
    }

    private static void term1Rows(Edge e) {
        e.says("The tape is a row of at most 200 letters, empty at first; it tells what is put, and stays as it is until it is");
        e.due("empty at first", 0, () -> new Room().clearTape());
        e.due("200 letters", 200, () -> tape(new Room(), "a".repeat(199)).feed('b'));
        e.refused("201 letters", Edge.STATE, () -> tape(new Room(), "a".repeat(200)), r -> r.feed('b'));
        Room x = tape(new Room(), "ab");
        x.type();
        x.replace(0, 1);
        x.setPattern(false);
        x.replaceNext();
        x.replaceAll();
        x.erase(-1);
        x.cut(0, 1);
        x.paste();
        x.undo(3);
        x.redo(1);
        x.keep();
        x.errors();
        e.due("it stays behind acts and other calls", 2, () -> x.count(5));
        x.replace(0, x.count(0));
        e.dueText("with its letters", "ab", x);

        e.says("The clip is a row of letters as well, or a block of rows; it is an empty row of letters at first");
        e.nothing("empty at first", 3, () -> at(Check.room("abc"), 1, 3), Room::paste);
        Room row = at(Check.room("ab\ncd"), 0, 1);
        row.copy(0, 2);
        row.paste();
        e.dueText("a row at two cursors", "abaabb\ncd", row);
        Room block = at(Check.room("ab\ncd"), 0, 1);
        block.copyBlock(0, 2, 0, 2);
        block.paste();
        e.dueText("a block at the cursor 0", "abab\ncdcd", block);
    }

    private static void term1Exceptions(Edge e) {
        e.says("If several exceptions apply to a call, the one that is listed first is thrown; a call that throws an exception");
        Supplier<Room> full = UndoTest::full;
        e.refused("feed: ARGUMENT ahead of STATE", Edge.ARGUMENT, () -> tape(new Room(), "a".repeat(200)), r -> r.feed(1));
        e.refused("copy: INDEX ahead of ARGUMENT", Edge.INDEX, r -> r.copy(38, 37));
        e.refused("copyBlock: INDEX ahead of ARGUMENT", Edge.INDEX, r -> r.copyBlock(8, 0, -1, 0));
        e.refused("erase: ARGUMENT ahead of STATE", Edge.ARGUMENT, full, r -> r.erase(-101));
        e.refused("replace: INDEX ahead of both", Edge.INDEX, full, r -> r.replace(151, 0));
        e.refused("replace: ARGUMENT ahead of STATE", Edge.ARGUMENT, full, r -> r.replace(2, 0));
        e.refused("cut: INDEX ahead of both", Edge.INDEX, full, r -> r.cut(151, 0));
        e.refused("cut: ARGUMENT ahead of STATE", Edge.ARGUMENT, full, r -> r.cut(2, 0));
        e.refused("indent: INDEX ahead of both", Edge.INDEX, full, r -> r.indent(2, 0, 0));
        e.refused("indent: ARGUMENT ahead of STATE", Edge.ARGUMENT, full, r -> r.indent(1, 0, 1));
        e.refused("wrap: INDEX ahead of ARGUMENT", Edge.INDEX, full, r -> r.wrap(2, 0));
        e.refused("wrap: ARGUMENT ahead of STATE", Edge.ARGUMENT, EdgeLineTest::blanksAndActs, r -> r.wrap(0, 0));
        e.refused("joinLines: INDEX ahead of both", Edge.INDEX, full, r -> r.joinLines(2, 0));
        e.refused("joinLines: ARGUMENT ahead of STATE", Edge.ARGUMENT, full, r -> r.joinLines(1, 0));
        e.refused("addCursor: INDEX ahead of STATE", Edge.INDEX,
                () -> at(Check.room("abcdefgh"), 0, 1, 2, 3, 4, 5, 6, 7), r -> r.addCursor(9));
        e.refused("find: INDEX ahead of STATE", Edge.INDEX, () -> Check.room("a"), r -> r.find(2, true));
        e.refused("fold: INDEX ahead of both", Edge.INDEX, () -> at(Check.room("a\nb"), 3), r -> r.fold(2, 1));
        e.refused("fold: ARGUMENT ahead of STATE", Edge.ARGUMENT, () -> at(Check.room("a\nb"), 3), r -> r.fold(1, 1));
        e.refused("setView: INDEX ahead of ARGUMENT", Edge.INDEX, r -> r.setView(2, -1, 41));
        e.refused("rowOf: INDEX ahead of ARGUMENT", Edge.INDEX, r -> r.rowOf(-1, 40));
        e.refused("play: ARGUMENT ahead of STATE", Edge.ARGUMENT, r -> r.play(21));
        e.refused("placeAt: INDEX ahead of ARGUMENT", Edge.INDEX, r -> r.placeAt(-1, -1));

        e.says("An IndexOutOfBoundsException is thrown for a place, a line, a cursor, a mark or a view that does not exist");
        e.refused("a place", Edge.INDEX, r -> r.setCursor(38));
        e.refused("a line", Edge.INDEX, r -> r.unfold(8));
        e.refused("a cursor", Edge.INDEX, r -> r.cursorAt(3));
        e.refused("a mark", Edge.INDEX, r -> r.markAt(16));
        e.refused("a view", Edge.INDEX, r -> r.rowOf(2, 0));
    }

    /** Two lines, two acts, and one that was undone: an act that happened would be the continuation done again. */
    private static Room undone() {
        Room x = tape(Check.room("ab\ncd"), "-");
        x.type();
        x.type();
        x.undo(1);
        x.clearTape();
        return x;
    }

    private static void term2Nothing(Edge e) {
        e.says("An act that would remove nothing and put nothing anywhere does not happen, and is not kept; one that replaces");
        e.nothing("type()", 6, EdgeTermTest::undone, Room::type);
        e.nothing("erase(0)", 0, EdgeTermTest::undone, r -> r.erase(0));
        e.nothing("erase() at the end", 0, () -> at(undone(), 6), r -> r.erase(100));
        e.nothing("erase() at the beginning", 0, () -> at(undone(), 0), r -> r.erase(-100));
        e.nothing("replace()", 6, EdgeTermTest::undone, r -> r.replace(3, 3));
        e.nothing("cut()", 0, EdgeTermTest::undone, r -> r.cut(3, 3));
        e.nothing("paste()", 6, EdgeTermTest::undone, Room::paste);
        e.nothing("indent() to the left", 0, EdgeTermTest::undone, r -> r.indent(0, 1, -8));
        e.nothing("indent() to the right", 0, () -> {
            Room r = Check.room("\n");
            r.erase(1);
            r.undo(1);
            return r;
        }, r -> r.indent(0, 1, 8));
        e.nothing("wrap()", 0, EdgeTermTest::undone, r -> r.wrap(0, 1));
        e.nothing("joinLines()", 2, EdgeTermTest::undone, r -> r.joinLines(1, 1));
        e.nothing("replaceNext()", -1, () -> pattern(undone(), "x", false, "y"), Room::replaceNext);
        e.nothing("replaceAll()", 0, () -> pattern(undone(), "x", false, "y"), Room::replaceAll);
        e.nothing("play()", 0, EdgeTermTest::undone, r -> r.play(20));
        e.nothing("in an open group", 6, () -> {
            Room r = undone();
            r.group(true);
            return r;
        }, Room::type);
        happens(e, "replace() by the same letters", () -> tape(undone(), "ab"), r -> r.replace(1, 3));
        happens(e, "replaceNext() by the same letters", () -> pattern(undone(), "ab", false, "ab"), Room::replaceNext);
        happens(e, "replaceAll() by the same letters", () -> pattern(undone(), "b", false, "b"), Room::replaceAll);
        Room first = tape(Check.room("abc"), "a");
        first.group(true);
        first.setCursor(3);
        first.replace(0, 1);
        first.setCursor(2);
        first.type();
        e.due("the first part of a group, by the same letters", 2, () -> first.acts(0));
        first.undo(1);
        e.due("so undoing goes back to right ahead of it", "3", Check.cursors(first));
        e.refused("by the same letters with 150 acts", Edge.STATE, UndoTest::full, r -> r.replace(1, 2));
    }

    private static void happens(Edge e, String what, Supplier<Room> maker, ToLongFunction<Room> call) {
        Room x = maker.get();
        int acts = x.acts(0);
        call.applyAsLong(x);
        e.due(what + " is kept", acts + 1, () -> x.acts(0));
        e.due(what + " has nothing behind it", 0, () -> x.acts(2));
        e.due(what + " is undone", 1, () -> x.undo(1));
        e.due(what + " and is one continuation more", 2, () -> x.acts(3));
    }

    private static void term2Parts(Edge e) {
        e.says("An act replaces parts of the text that do not overlap, each by some letters (by none, if they are only removed)");
        Room x = at(Check.room("abcdefgh"), 0, 1, 2);
        e.due("cursors that would remove the same letters", 4, () -> x.erase(2));
        e.dueText("each letter once", "efgh", x);
        Room y = pattern(Check.room("aaa"), "aa", false, "");
        e.due("finds that overlap", 1, y::replaceAll);
        e.dueText("only removed", "a", y);

        e.says("What is put at one place is one part");
        Room three = Check.room("a\nb\nc");
        three.copyBlock(0, 3, 0, 1);
        three.setMark(0, 5, true);
        three.setMark(1, 5, false);
        three.setCursor(5);
        e.due("a row, two line ends, blanks and two rows at the end", 12, three::paste);
        e.dueText("the text", "a\nb\nca\n b\n c", three);
        e.due("marks that lean left stay ahead of all, right ones come behind all", "0:5 1:12", Check.marks(three));
        e.due("the cursor too", "12", Check.cursors(three));
        Room lines = Check.room("a\nbc");
        lines.copyBlock(0, 2, 0, 1);
        lines.setMark(0, 4, true);
        lines.setMark(1, 4, false);
        lines.setCursor(2);
        lines.paste();
        e.dueText("two parts: in the last line, and at the end", "a\nabc\nb", lines);
        e.due("marks at the end", "0:5 1:7", Check.marks(lines));

        e.says("The parts are replaced one by one, the last one in the text first");
        Room z = pattern(Check.room("aabbaa"), "aa", false, "xyz");
        for (int mark = 0; mark <= 6; mark++) {
            z.setMark(mark, mark, true);
            z.setMark(mark + 7, mark, false);
        }
        z.replaceAll();
        e.dueText("two parts", "xyzbbxyz", z);
        e.due("all places", "0:0 1:0 2:0 3:4 4:5 5:5 6:5 7:0 8:0 9:3 10:4 11:5 12:5 13:8", Check.marks(z));
        Room touching = pattern(Check.room("aaaa"), "aa", false, "xyz");
        touching.setMark(0, 4, true);
        touching.setMark(1, 2, true);
        touching.setMark(2, 2, false);
        touching.setMark(3, 4, false);
        touching.replaceAll();
        e.due("two parts that touch", "0:0 1:0 2:3 3:6", Check.marks(touching));
    }

    /** The marks of all places of six letters, first those that lean left, then those that lean right. */
    private static String moved(int a, int b, int put) {
        Room x = tape(Check.room("abcdef"), "xyz".substring(0, put));
        for (int place = 0; place <= 6; place++) {
            x.setMark(place, place, true);
            x.setMark(place + 7, place, false);
        }
        x.replace(a, b);
        StringBuilder all = new StringBuilder();
        for (int mark = 0; mark < 14; mark++) {
            all.append(mark == 7 ? " " : "").append(x.markAt(mark));
        }
        return all.toString();
    }

    private static void term2Places(Edge e) {
        e.says("When a part from the place a up to the place b is replaced by n letters (a and b are the same if nothing is");
        e.due("2 up to 4 by none", "0122234 0122234", moved(2, 4, 0));
        e.due("2 up to 4 by one", "0122245 0122345", moved(2, 4, 1));
        e.due("2 up to 4 by two", "0122256 0122456", moved(2, 4, 2));
        e.due("2 up to 4 by three", "0122267 0122567", moved(2, 4, 3));
        e.due("put at 2", "0126789 0156789", moved(2, 2, 3));
        e.due("put at 0", "0456789 3456789", moved(0, 0, 3));
        e.due("put at the end", "0123456 0123459", moved(6, 6, 3));
        e.due("all by three", "0000000 0000003", moved(0, 6, 3));
        e.due("all by none", "0000000 0000000", moved(0, 6, 0));
        e.due("the last letter by one", "0123455 0123456", moved(5, 6, 1));

        e.says("There are 1 to 8 cursors, numbered from 0 by ascending places; at first there is one, at the place 0");
        Room first = new Room();
        e.due("at first", "0", Check.cursors(first));
        Room x = Check.room("abcdefgh");
        for (int place : new int[] {8, 3, 5, 1, 7, 2, 4}) {
            x.addCursor(place);
        }
        e.due("eight, by ascending places", "0 1 2 3 4 5 7 8", Check.cursors(x));
        e.refused("nine", Edge.STATE, () -> at(Check.room("abcdefgh"), 0, 1, 2, 3, 4, 5, 7, 8), r -> r.addCursor(6));
        x.erase(100);
        e.due("one is left of all", "0", Check.cursors(x));
        Room turned = at(Check.room("abcdef\n\tg"), 3, 7);
        turned.moveCursors(Cursorroom.LINES, 1);
        e.due("ascending behind a move", "7 8", Check.cursors(turned));

        e.says("Cursors lean right");
        Room y = tape(at(Check.room("abcd"), 0, 2, 4), "-");
        y.replace(2, 2);
        e.due("at the place", "0 3 5", Check.cursors(y));
        y.replace(0, 2);
        e.due("at the end of a part, and at its beginning", "0 2 4", Check.cursors(y));

        e.says("Cursors that come to the same place become one");
        Room same = at(Check.room("abcdef"), 1, 2, 3, 5);
        same.replace(1, 3);
        e.due("by an act", "1 3", Check.cursors(same));
        Room ends = at(Check.room("abc\nd"), 0, 1, 3, 5);
        ends.moveCursors(Cursorroom.ENDS, 1);
        e.due("by a move", "3 5", Check.cursors(ends));
        Room set = at(Check.room("abc"), 1);
        set.addCursor(1);
        e.due("by adding", "1", Check.cursors(set));

        e.says("There are the marks 0 to 15, none of which is set at first");
        e.due("at first", "", Check.marks(new Room()));
        Room marks = Check.room("abc");
        marks.setMark(0, 3, true);
        marks.setMark(15, 1, false);
        e.due("0 and 15", "0:3 15:1", Check.marks(marks));
        e.refused("-1", Edge.INDEX, r -> r.setMark(-1, 0, true));
        e.refused("16", Edge.INDEX, r -> r.setMark(16, 0, true));

        e.says("A mark that is set has a place, and leans left or right");
        e.due("left", 1, () -> leaning(true));
        e.due("right", 2, () -> leaning(false));
    }

    private static int leaning(boolean isLeft) {
        Room x = tape(Check.room("ab"), "-");
        x.setMark(0, 1, isLeft);
        x.replace(1, 1);
        return x.markAt(0);
    }

    private static void term2Bounds(Edge e) {
        e.says("An act that would bring the text above 3000 letters or above 300 lines is refused");
        e.refused("3001 letters by two parts", Edge.STATE,
                () -> pattern(Check.room("a" + "b".repeat(2997) + "a"), "a", false, "xy"), Room::replaceAll);
        e.due("3000 letters by two parts", 2,
                () -> pattern(Check.room("a" + "b".repeat(2996) + "a"), "a", false, "xy").replaceAll());
        e.due("what comes of all parts counts: 200 letters for 200", 3000,
                () -> tape(Edge.letters(3000), "b".repeat(200)).replace(0, 200));
        e.due("300 lines for 300", 299, () -> tape(Edge.lines(300), "\n".repeat(200)).replace(0, 200));
        e.refused("201 letters for 200", Edge.STATE,
                () -> tape(Edge.letters(3000), "b".repeat(200)), r -> r.replace(0, 199));
        e.refused("one line more", Edge.STATE, () -> tape(Edge.lines(300), "\n".repeat(200)), r -> r.replace(0, 199));
        e.due("letters that bring no line", 300, () -> tape(Edge.lines(300), "a").type());
        e.due("a line that brings no letter", 3000, () -> tape(Edge.letters(3000), "\n").replace(0, 1));
        e.due("removing from a text that is full of both", 100, () -> {
            Room r = Check.room("123456789\n".repeat(299) + "1234567890");
            return r.erase(100);
        });
    }

    private static final String EIGHT = "a\nb\nc\nd\ne\nf\ng\nh";

    /** Eight lines of a letter each, with a fold of the lines 2 and 3 and one of the lines 5 and 6. */
    private static Room folded() {
        Room x = Check.room(EIGHT);
        x.fold(1, 3);
        x.fold(4, 6);
        return x;
    }

    private static void term3(Edge e) {
        e.says("Each line is hidden or not; none is at first, and the line 0 never is");
        e.due("a new room", 0, () -> Check.bit(new Room().isHidden(0)));
        e.due("new lines", 0, () -> Edge.lines(300).count(4));
        Room all = Edge.lines(300);
        all.fold(0, 299);
        e.due("all but the line 0", 0, () -> Check.bit(all.isHidden(0)));
        Room gone = folded();
        gone.replace(0, 4);
        e.due("the line 0 is removed, up to a hidden one", "3 4", Check.hidden(gone));
        Room ahead = folded();
        ahead.replace(0, 3);
        e.due("the line 0 is removed, up to the end of one ahead of a hidden one", "1 2 4 5", Check.hidden(ahead));

        e.says("A fold is a row of hidden lines, one behind the other, that can't be made longer");
        Room two = Check.room(EIGHT);
        two.fold(1, 3);
        two.fold(3, 5);
        e.due("two that touch are one", 4, () -> two.unfold(4));
        Room parted = folded();
        e.due("a line that is shown parts them", 2, () -> parted.unfold(5));
        e.due("the other one stays", "2 3", Check.hidden(parted));

        e.says("All other hidden lines stay hidden, with the numbers that they have then");
        Room more = tape(folded(), "\n\n");
        more.replace(0, 0);
        e.due("two lines more ahead of them", "4 5 7 8", Check.hidden(more));
        Room less = folded();
        less.replace(0, 2);
        e.due("one line less", "1 2 4 5", Check.hidden(less));
        Room between = tape(folded(), "\n");
        between.replace(8, 8);
        e.due("one more between them", "2 3 6 7", Check.hidden(between));
        Room behind = tape(folded(), "\n");
        behind.replace(15, 15);
        e.due("one more behind them", "2 3 5 6", Check.hidden(behind));
        Room full = Edge.lines(299);
        full.fold(297, 298);
        Check.tape(full, "\n");
        full.replace(0, 0);
        e.due("the line 299", 1, () -> Check.bit(full.isHidden(299)));
        e.due("alone", 1, () -> full.count(4));
    }

    private static String hiddenBehind(int from, int to, String put) {
        Room x = tape(folded(), put);
        x.replace(from, to);
        return Check.hidden(x);
    }

    private static void term3Parts(Edge e) {
        e.says("when a part of the text is replaced by an act that begins, ends or lies in one of its lines");
        // The fold of the lines 2 and 3 is from the place 4 up to the place 7, that of 5 and 6 from 10 up to 13.
        e.due("put at the end of the line ahead", "2 3 5 6", hiddenBehind(3, 3, "x"));
        e.due("put at its beginning", "5 6", hiddenBehind(4, 4, "x"));
        e.due("put at its end", "5 6", hiddenBehind(7, 7, "x"));
        e.due("put at the beginning of the line behind it", "2 3 5 6", hiddenBehind(8, 8, "x"));
        e.due("it ends at the end of the line ahead", "2 3 5 6", hiddenBehind(2, 3, "x"));
        e.due("it ends at its beginning", "4 5", hiddenBehind(3, 4, ""));
        e.due("it begins at its end", "4 5", hiddenBehind(7, 8, ""));
        e.due("it begins right behind it", "2 3 5 6", hiddenBehind(8, 9, "x"));
        e.due("it lies in it", "5 6", hiddenBehind(4, 5, "x"));
        e.due("it lies over all of it", "2 3", hiddenBehind(3, 8, ""));
        e.due("it lies over both", "", hiddenBehind(3, 14, ""));
        e.due("it reaches from one into the other", "", hiddenBehind(7, 10, "x"));
        e.due("by the same letters", "5 6", hiddenBehind(4, 5, "c"));
        Room two = tape(at(folded(), 0, 8, 14), "x");
        two.type();
        e.due("parts in lines that are shown", "2 3 5 6", Check.hidden(two));
        Room all = pattern(folded(), "c", false, "x");
        all.replaceAll();
        e.due("one of its lines: all of it is shown", "5 6", Check.hidden(all));
        Room joined = folded();
        joined.joinLines(6, 7);
        e.due("joined with the line behind it", "2 3", Check.hidden(joined));
        Room indented = folded();
        indented.indent(0, 2, 1);
        e.due("indented", "5 6", Check.hidden(indented));
        Room not = folded();
        not.indent(0, 7, -1);
        e.due("an act that does not happen", "2 3 5 6", Check.hidden(not));
        e.refused("an act that is refused at 300 lines", Edge.STATE, () -> {
            Room r = tape(Edge.lines(300), "\n");
            r.fold(1, 3);
            r.fold(4, 6);
            return r;
        }, r -> r.replace(2, 2));
        e.refused("one ahead of hidden lines", Edge.STATE, () -> {
            Room r = tape(Edge.lines(300), "\n");
            r.fold(1, 3);
            return r;
        }, Room::type);
        e.refused("an act that is refused at 3000 letters", Edge.STATE, () -> {
            Room r = tape(folded(), "x".repeat(200));
            for (int time = 0; time < 14; time++) {
                r.replace(0, 0);
            }
            return r;
        }, r -> r.replace(2804, 2805));
    }

    private static void term3Cursors(Edge e) {
        e.says("or when a call, or a step that is played, leaves a cursor in one of its lines");
        Room set = folded();
        set.setCursor(4);
        e.due("setCursor() at its beginning", "5 6", Check.hidden(set));
        Room end = folded();
        end.setCursor(7);
        e.due("setCursor() at its end", "5 6", Check.hidden(end));
        Room ahead = folded();
        ahead.setCursor(3);
        ahead.setCursor(8);
        e.due("setCursor() right ahead of it and right behind it", "2 3 5 6", Check.hidden(ahead));
        Room add = folded();
        add.addCursor(13);
        e.due("addCursor()", "2 3", Check.hidden(add));
        Room move = at(folded(), 0, 8);
        move.moveCursors(Cursorroom.LETTERS, 4);
        e.due("moveCursors(), two cursors", "", Check.hidden(move));
        Room over = folded();
        over.moveCursors(Cursorroom.LETTERS, 8);
        e.due("moveCursors() over it", "2 3 5 6", Check.hidden(over));
        Room lines = folded();
        lines.moveCursors(Cursorroom.LINES, 2);
        e.due("moveCursors() by lines that are shown", "2 3 5 6", Check.hidden(lines));
        Room typed = tape(folded(), "\n");
        typed.type();
        e.due("type() ahead of it", "3 4 6 7", Check.hidden(typed));
        Room step = folded();
        step.record(true);
        step.moveCursors(Cursorroom.LETTERS, 4);
        step.moveCursors(Cursorroom.LETTERS, 4);
        step.record(false);
        step.setCursor(0);
        step.fold(1, 3);
        step.fold(4, 6);
        step.play(1);
        e.due("the first of two steps", "5 6", Check.hidden(step));
        Room back = folded();
        back.setCursor(4);
        back.fold(4, 6);
        Check.tape(back, "x");
        back.replace(8, 8);
        back.setCursor(0);
        back.fold(1, 3);
        back.undo(1);
        e.due("undo() brings back a cursor and the fold that is open there", "5 6", Check.hidden(back));
    }

    private static void term4Bounds(Edge e) {
        e.says("At most 150 acts are kept; with 150, an act that would have to be kept anew is refused");
        Room last = UndoTest.full();
        e.due("150", 150, () -> last.acts(0));
        e.refused("type()", Edge.STATE, UndoTest::full, Room::type);
        e.refused("erase()", Edge.STATE, UndoTest::full, r -> r.erase(-1));
        e.refused("replace()", Edge.STATE, UndoTest::full, r -> r.replace(0, 0));
        e.refused("cut()", Edge.STATE, UndoTest::full, r -> r.cut(0, 1));
        e.refused("paste()", Edge.STATE, () -> {
            Room r = UndoTest.full();
            r.copy(0, 1);
            return r;
        }, Room::paste);
        e.refused("indent()", Edge.STATE, UndoTest::full, r -> r.indent(0, 1, 1));
        e.refused("joinLines()", Edge.STATE, UndoTest::full, r -> r.joinLines(0, 1));
        e.refused("replaceNext()", Edge.STATE, () -> pattern(UndoTest.full(), "a", false, "b"), Room::replaceNext);
        e.refused("replaceAll()", Edge.STATE, () -> pattern(UndoTest.full(), "a", false, "b"), Room::replaceAll);
        e.refused("the first part of a group", Edge.STATE, () -> {
            Room r = UndoTest.full();
            r.group(true);
            return r;
        }, Room::type);
        e.refused("acts that were undone are kept", Edge.STATE, () -> {
            Room r = UndoTest.full();
            r.undo(150);
            return r;
        }, Room::type);
        Room parts = UndoTest.full149();
        parts.group(true);
        parts.type();
        e.due("the act 150 begins a group", 150, () -> parts.acts(0));
        e.due("its other parts are not kept anew", 151, parts::type);
        e.due("so there are 150 still", 150, () -> parts.acts(0));
        parts.group(false);
        e.due("behind it", "throws.IllegalStateException", Check.outcome(parts::type));
        Room again = UndoTest.full();
        e.due("undone and done again", 300, () -> again.undo(150) + again.redo(150));
    }

    private static String state(Room x) {
        return Check.text(x).replace('\n', '/') + " " + Check.cursors(x) + " " + Check.marks(x) + " " + Check.hidden(x);
    }

    private static final int[] HIDDEN = {1, 3, 62, 64, 66, 126, 128, 191, 193, 255, 257, 297, 299};

    /** How many of those lines are hidden, and how many others. */
    private static String hiddenLines(Room x) {
        int many = 0;
        for (int line : HIDDEN) {
            many += Check.bit(x.isHidden(line));
        }
        return many + " of them, " + (x.count(4) - many);
    }

    private static void term4(Edge e) {
        e.says("Acts are kept in a tree: an act is kept as the latest continuation of the act behind which it was done");
        Room x = tape(new Room(), "a");
        x.type();
        x.undo(1);
        Check.tape(x, "b");
        x.type();
        x.type();
        x.undo(2);
        e.due("two at the beginning", 2, () -> x.acts(3));
        x.branch(1);
        x.redo(1);
        e.dueText("the latest one is the last one", "b", x);
        e.due("it has one of its own", 1, () -> x.acts(3));

        e.says("To undo an act makes the text, the cursors, the marks and the hidden lines as they were right ahead of it");
        Room y = Check.room("a\nb\nc");
        y.addCursor(1);
        y.setMark(2, 5, true);
        y.fold(1, 2);
        String before = state(y);
        Check.tape(y, "\n");
        y.replace(0, 5);
        String behind = state(y);
        y.setMark(3, 0, false);
        y.undo(1);
        e.due("all of it", before, state(y));
        y.redo(1);
        e.due("what it was right ahead of the undoing is kept", behind.replace("2:0", "2:0 3:0"), state(y));
        Room lines = tape(Edge.lines(300), "a");
        for (int line : HIDDEN) {
            lines.fold(line - 1, line);
        }
        lines.type();
        for (int line : HIDDEN) {
            lines.unfold(line);
        }
        lines.fold(98, 99);
        lines.undo(1);
        e.due("hidden lines of 300", HIDDEN.length + " of them, 0", hiddenLines(lines));
        lines.redo(1);
        e.due("and when it was undone", "0 of them, 1", hiddenLines(lines));
        Room when = tape(Check.room("a\nb\nc"), "-");
        when.setCursor(2);
        when.type();
        when.undo(1);
        when.setCursor(0);
        when.redo(1);
        when.undo(1);
        e.due("when it was done first, not again", "2", Check.cursors(when));
        Room group = tape(Check.room("abc"), "-");
        group.group(true);
        group.setCursor(1);
        group.erase(0);
        group.setCursor(2);
        group.type();
        group.setCursor(0);
        group.type();
        group.undo(1);
        e.due("of a group: right ahead of the first part", "2", Check.cursors(group));
        Room play = tape(Check.room("abc"), "-");
        play.record(true);
        play.moveCursors(Cursorroom.LETTERS, 1);
        play.type();
        play.moveCursors(Cursorroom.LETTERS, -1);
        play.record(false);
        play.setCursor(0);
        play.play(2);
        play.undo(1);
        e.due("of play(): right ahead of the first part", "1", Check.cursors(play));

        e.says("To do an act again makes them as they were when it was undone");
        Room again = tape(Check.room("a\nb"), "-");
        again.type();
        Check.cursors(again, 0, 1);
        again.setMark(0, 4, true);
        again.fold(0, 1);
        String then = state(again);
        again.undo(1);
        again.setCursor(3);
        again.setMark(0, 1, true);
        again.redo(1);
        e.due("all of it", then, state(again));
        again.setCursor(2);
        again.undo(1);
        again.redo(1);
        e.due("when it was undone last", "2", Check.cursors(again));
        Room lean = tape(Check.room("ab"), "-");
        lean.setMark(0, 1, true);
        lean.setMark(1, 1, false);
        lean.type();
        lean.setMark(0, 2, false);
        lean.setMark(1, 2, true);
        lean.undo(1);
        lean.replace(1, 1);
        e.due("how marks leant right ahead of it", "0:1 1:2", Check.marks(lean));
        lean.undo(1);
        lean.branch(0);
        lean.setMark(0, 0, true);
        lean.setMark(1, 0, false);
        lean.redo(1);
        lean.replace(2, 2);
        e.due("how they leant when it was undone", "0:3 1:2", Check.marks(lean));
        lean.undo(2);
        lean.redo(2);
        lean.replace(2, 2);
        e.due("how the one that leans left leans behind two that were done again", "0:4 1:2", Check.marks(lean));
        Room first = UndoTest.full();
        first.undo(150);
        first.redo(150);
        e.due("the first one and the last one of 150", 150, () -> first.count(0));
    }

    private static void term4Groups(Edge e) {
        e.says("Of several continuations the one is done again that was done or undone last, or that was chosen by branch()");
        e.dueText("done last", "c", done(3, -1));
        Room undone = done(3, 0);
        undone.undo(1);
        undone.redo(1);
        e.dueText("undone last", "a", undone);
        e.dueText("chosen", "b", done(3, 1));
        Room behind = done(3, 0);
        behind.undo(1);
        behind.branch(1);
        behind.redo(1);
        e.dueText("chosen behind that", "b", behind);
        Room anew = done(3, 0);
        anew.undo(1);
        Check.tape(anew, "d");
        anew.type();
        anew.undo(1);
        anew.redo(1);
        e.dueText("done behind a choice", "d", anew);

        e.says("While a group is open, all acts are parts of one act, which is kept with the first of them");
        Room group = tape(new Room(), "a");
        group.group(true);
        e.due("ahead of the first one", 0, () -> group.acts(0));
        group.type();
        e.due("with the first one", 1, () -> group.acts(0));
        e.due("it could be undone", 1, () -> group.acts(1));
        group.type();
        group.erase(-1);
        group.replace(0, 0);
        e.due("others are parts of it", 1, () -> group.acts(0));
        e.due("one act", 1, () -> group.undo(150));
        e.dueText("all undone", "", group);

        e.says("undo(), redo() and branch(), if they do not throw an exception, close the group first");
        e.due("undo() that undoes nothing", 0, () -> open(r -> r.undo(1)));
        e.due("redo() that does nothing again", 0, () -> open(r -> r.redo(150)));
        e.due("undo(0)", 1, () -> open(r -> r.undo(0)));
        e.due("undo(151)", 1, () -> open(r -> r.undo(151)));
        e.due("redo(0)", 1, () -> open(r -> r.redo(0)));
        e.due("redo(151)", 1, () -> open(r -> r.redo(151)));
        e.due("branch() that throws", 1, () -> open(r -> r.branch(0)));
        Room branch = done(2, 0);
        branch.undo(1);
        branch.group(true);
        branch.branch(1);
        e.due("branch()", 0, () -> Check.bit(branch.group(false)));
        Room parted = tape(new Room(), "a");
        parted.group(true);
        parted.type();
        parted.redo(1);
        parted.type();
        e.due("what comes behind is an act of its own", 2, () -> parted.acts(0));
    }

    /** Whether a group is open still behind a call. */
    private static long open(ToLongFunction<Room> call) {
        Room x = new Room();
        x.group(true);
        Check.outcome(() -> call.applyAsLong(x));
        return Check.bit(x.group(false));
    }

    /** So many continuations at the beginning, a, b, and so on; the one that was chosen is done, or the one done last. */
    private static Room done(int many, int chosen) {
        Room x = new Room();
        for (int number = 0; number < many; number++) {
            Check.tape(x, "" + (char) ('a' + number));
            x.type();
            x.undo(1);
        }
        if (chosen >= 0) {
            x.branch(chosen);
        }
        x.redo(1);
        return x;
    }

    private static void term5(Edge e) {
        e.says("A word is a row of the letters A to Z, a to z, 0 to 9 and _ that can't be made longer");
        for (char letter : "AZaz09_".toCharArray()) {
            e.due("of words: " + letter, 1, () -> Check.room("a" + letter + "a").count(7));
        }
        for (char letter : "@[`{/:^~ !\t\n".toCharArray()) {
            e.due("not of words: " + (int) letter, 2, () -> Check.room("a" + letter + "a").count(7));
        }

        e.says("The pattern is a row of 1 to 40 letters, or there is none (as at first); it can be told to ask for whole words");
        e.refused("none at first", Edge.STATE, () -> Check.room("a"), r -> r.find(0, true));
        e.refused("0 letters", Edge.STATE, () -> Check.room("a"), r -> r.setPattern(true));
        e.due("1 letter", 1, () -> tape(Check.room("a"), "a").setPattern(true));
        e.due("40 letters", 1, () -> tape(Check.room("a".repeat(40)), "a".repeat(40)).setPattern(true));
        e.refused("41 letters", Edge.STATE, () -> tape(Check.room("a".repeat(41)), "a".repeat(41)), r -> r.setPattern(true));

        e.says("A find is a place at which the letters of the pattern stand, one behind the other; if whole words are asked for");
        e.due("at the beginning and the end of the text", 2, () -> finds("ab-ab", "ab"));
        e.due("the whole text", 1, () -> finds("ab", "ab"));
        e.due("one of a word ahead", 0, () -> finds("xab", "ab"));
        e.due("one of a word behind", 0, () -> finds("abx", "ab"));
        e.due("one of a word behind the end, that is gone", 1, () -> tape(Edge.gone("ab", "c"), "ab").setPattern(true));
        e.due("none of a word on both sides", 1, () -> finds("\nab\t", "ab"));
        e.due("_ is one of a word", 0, () -> finds("_ab ab_", "ab"));
        e.due("a pattern of other letters", 0, () -> finds("a-b", "-"));
        e.due("a pattern of other letters, alone", 1, () -> finds(" - ", "-"));
        e.due("the last letter is another one", 0, () -> tape(Check.room("abc"), "abd").setPattern(false));
        e.due("the first letter is another one", 0, () -> tape(Check.room("abc"), "bbc").setPattern(false));
        e.due("large and small letters", 0, () -> tape(Check.room("abc"), "ABC").setPattern(false));
    }

    private static int finds(String text, String words) {
        return tape(Check.room(text), words).setPattern(true);
    }
}
