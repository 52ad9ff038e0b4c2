/** Each sentence of the promises 29 to 35, at its edges: search, hidden lines and views. */
final class EdgeShownTest {
    private static final int MOST = Integer.MAX_VALUE;
    private static final int LEAST = Integer.MIN_VALUE;

    private EdgeShownTest() {
    }

    static void run(Document document) {
        promise29(new Edge(document, "P29"));
        promise30(new Edge(document, "P30"));
        promise31(new Edge(document, "P31"));
        promise32(new Edge(document, "P32"));
        promise33(new Edge(document, "P33"));
        promise34(new Edge(document, "P34"));
        promise35(new Edge(document, "P35"));
        promise35Refused(new Edge(document, "P35"));
    }

    /** A room with a tape. */
    private static Room tape(String text, String tape) {
        Room x = Check.room(text);
        Check.tape(x, tape);
        return x;
    }

    private static Room search(String text, String pattern, boolean isWords) {
        Room x = tape(text, pattern);
        x.setPattern(isWords);
        return x;
    }

    private static void promise29(Edge e) {
        e.says("Makes the tape the pattern");
        Room x = search("ab cd", "ab", false);
        Check.tape(x, "cd");
        e.due("the tape is another one then", 0, () -> x.find(0, true));
        x.setPattern(false);
        e.due("in place of the one before", 3, () -> x.find(0, true));
        Room z = Check.room("zzz");
        z.feed('z');
        z.setPattern(false);
        z.feed('z');
        e.due("a tape that grows behind it leaves it", 2, () -> z.find(2, true));

        e.says("`isWords`: whether whole words are asked for");
        e.due("asked for", 1, () -> tape("ab abc", "ab").setPattern(true));
        e.due("not asked for", 2, () -> tape("ab abc", "ab").setPattern(false));
        Room y = search("abc ab", "ab", true);
        e.due("it stays", 4, () -> y.find(0, true));
        y.setPattern(false);
        e.due("until it is set again", 0, () -> y.find(0, true));

        e.says("Returns how many finds there are, also those that overlap");
        e.due("that overlap", 4, () -> tape("aaaaa", "aa").setPattern(false));
        e.due("none", 0, () -> tape("aaaaa", "ab").setPattern(false));
        e.due("the whole text", 1, () -> tape("a\tb\n", "a\tb\n").setPattern(false));
        e.due("letters that are gone", 1, () -> {
            Room r = Edge.gone("aba", "b");
            Check.tape(r, "ab");
            return r.setPattern(false);
        });
        e.due("a letter more than the text", 0, () -> tape("ab", "abc").setPattern(false));
        e.due("an empty text", 0, () -> tape("", "a").setPattern(false));
        e.due("3000", 3000, () -> {
            Room r = Edge.letters(3000);
            Check.tape(r, "a");
            return r.setPattern(false);
        });

        e.says("if the tape is empty, or has more than 40 letters");
        e.refused("an empty tape", Edge.STATE, () -> tape("ab", ""), r -> r.setPattern(false));
        e.refused("an empty tape and a pattern before", Edge.STATE, () -> {
            Room r = search("abc ab", "ab", true);
            r.clearTape();
            return r;
        }, r -> r.setPattern(false));
        e.due("1 letter", 1, () -> tape("ab", "a").setPattern(false));
        e.due("40 letters", 2, () -> tape("a".repeat(41), "a".repeat(40)).setPattern(false));
        e.refused("41 letters", Edge.STATE, () -> tape("a".repeat(41), "a".repeat(41)), r -> r.setPattern(false));
        e.refused("41 letters and a pattern before", Edge.STATE, () -> {
            Room r = search("abc ab", "ab", true);
            Check.tape(r, "a".repeat(41));
            return r;
        }, r -> r.setPattern(false));
        e.refused("200 letters", Edge.STATE, () -> tape("a".repeat(200), "a".repeat(200)), r -> r.setPattern(true));
    }

    private static void promise30(Edge e) {
        e.says("Returns a find");
        e.nothing("it changes nothing", 0, () -> search("ab", "a", false), r -> r.find(0, true));

        e.says("`place`: a place");
        e.due("0", 0, () -> search("aba", "a", false).find(0, true));
        e.due("the end", 2, () -> search("aba", "a", false).find(3, false));
        e.due("the end of a full text", 2960, () -> {
            Room r = Edge.letters(3000);
            Check.tape(r, "a".repeat(40));
            r.setPattern(false);
            return r.find(3000, false);
        });

        e.says("`isForward`: whether it is the least one that is not less than the place, otherwise the greatest one that is");
        e.due("at the place, forward", 2, () -> search("aba", "a", false).find(2, true));
        e.due("behind it, forward", 2, () -> search("aba", "a", false).find(1, true));
        e.due("at the place is not less, back", 0, () -> search("aba", "a", false).find(2, false));
        e.due("right ahead of it, back", 2, () -> search("aba", "a", false).find(3, false));
        e.due("one that reaches over the place, back", 1, () -> search("abcd", "bcd", false).find(2, false));
        e.due("one that reaches up to the end, forward", 1, () -> search("abcd", "bcd", false).find(1, true));

        e.says("Returns the find; NONE if there is none");
        e.due("none behind", Cursorroom.NONE, () -> search("aba", "a", false).find(3, true));
        e.due("none ahead of 0", Cursorroom.NONE, () -> search("aba", "a", false).find(0, false));
        e.due("a find that is gone", Cursorroom.NONE, () -> {
            Room r = Edge.gone("aba", "b");
            Check.tape(r, "ab");
            r.setPattern(false);
            return r.find(1, true);
        });
        e.due("fewer letters than the pattern has are left", Cursorroom.NONE, () -> search("abab", "ab", false).find(3, true));
        e.due("an empty text", Cursorroom.NONE, () -> search("", "a", false).find(0, true));
        e.due("an empty text, back", Cursorroom.NONE, () -> search("", "a", false).find(0, false));
        e.due("a text that is shorter than the pattern", Cursorroom.NONE, () -> search("a", "ab", false).find(1, false));

        e.says("if there is no such place");
        e.refused("-1", Edge.INDEX, r -> r.find(-1, true));
        e.refused("behind the end", Edge.INDEX, r -> r.find(38, true));
        e.refused("behind the end, back", Edge.INDEX, r -> r.find(38, false));
        e.refused("far above", Edge.INDEX, r -> r.find(MOST, false));
        e.refused("far below", Edge.INDEX, r -> r.find(LEAST, false));
        e.refused("no pattern either", Edge.INDEX, () -> Check.room("abc"), r -> r.find(4, true));
        e.refused("-1, no pattern either", Edge.INDEX, Room::new, r -> r.find(-1, false));

        e.says("if there is no pattern");
        e.refused("forward", Edge.STATE, () -> tape("abc", "a"), r -> r.find(0, true));
        e.refused("back", Edge.STATE, () -> tape("abc", "a"), r -> r.find(3, false));
    }

    private static final String EIGHT = "a\nb\nc\nd\ne\nf\ng\nh";

    private static Room at(String text, int... places) {
        Room x = Check.room(text);
        Check.cursors(x, places);
        return x;
    }

    /** Eight lines, with folds of the lines 2 and 3, and of the line 5. */
    private static Room folded() {
        Room x = Check.room(EIGHT);
        x.fold(1, 3);
        x.fold(4, 5);
        return x;
    }

    private static String folded(int from, int to) {
        Room x = folded();
        int hidden = x.fold(from, to);
        return hidden + ": " + Check.hidden(x);
    }

    private static void promise31(Edge e) {
        e.says("Hides lines: those behind a line, up to another one");
        e.due("not the first of them", "4: 2 3 5 7", folded(6, 7));
        e.due("one that is hidden, and others", "5: 2 3 4 5 6", folded(2, 6));
        e.due("behind a hidden one", "4: 2 3 4 5", folded(3, 4));
        e.due("hidden ones only", "3: 2 3 5", folded(2, 3));
        Room lines = Edge.lines(300);
        lines.fold(0, 299);
        e.due("299 of 300", 299, () -> lines.count(4));
        e.due("not the line 0", 0, () -> Check.bit(lines.isHidden(0)));
        e.due("the line 1", 1, () -> Check.bit(lines.isHidden(1)));
        e.due("the line 299", 1, () -> Check.bit(lines.isHidden(299)));

        e.says("`from`: a line");
        e.due("0", "4: 1 2 3 5", folded(0, 1));
        e.due("the last but one", "4: 2 3 5 7", folded(6, 7));

        e.says("`to`: a line behind it, the last one that is hidden");
        e.due("right behind it", "4: 2 3 5 6", folded(5, 6));
        e.due("the last one", "7: 1 2 3 4 5 6 7", folded(0, 7));

        e.says("Returns how many lines are hidden in all");
        e.due("one", 1, () -> Check.room(EIGHT).fold(0, 1));
        e.due("two folds", 3, () -> folded().fold(2, 3));
        e.due("299", 299, () -> Edge.lines(300).fold(0, 299));

        e.says("if there is no such line, of either");
        e.refused("from -1", Edge.INDEX, r -> r.fold(-1, 1));
        e.refused("to 8 of 8", Edge.INDEX, r -> r.fold(0, 8));
        e.refused("both 8", Edge.INDEX, r -> r.fold(8, 8));
        e.refused("from far above", Edge.INDEX, r -> r.fold(MOST, 1));
        e.refused("to far below", Edge.INDEX, r -> r.fold(0, LEAST));
        e.refused("to 8, a cursor in between", Edge.INDEX, () -> at(EIGHT, 3), r -> r.fold(0, 8));
        e.refused("1 of an empty text", Edge.INDEX, Room::new, r -> r.fold(0, 1));

        e.says("if from is not less than to");
        e.refused("the same line", Edge.ARGUMENT, r -> r.fold(3, 3));
        e.refused("one less", Edge.ARGUMENT, r -> r.fold(3, 2));
        e.refused("the same line, a cursor in it", Edge.ARGUMENT, () -> at(EIGHT, 3), r -> r.fold(1, 1));
        e.refused("the only line", Edge.ARGUMENT, Room::new, r -> r.fold(0, 0));

        e.says("if a cursor is in one of them");
        e.refused("in the first one", Edge.STATE, () -> at(EIGHT, 4), r -> r.fold(1, 4));
        e.refused("at the end of the last one", Edge.STATE, () -> at(EIGHT, 9), r -> r.fold(1, 4));
        e.refused("the last of eight cursors", Edge.STATE, () -> at(EIGHT, 0, 1, 2, 3, 10, 11, 12, 9), r -> r.fold(1, 4));
        e.refused("at the end of the text", Edge.STATE, () -> at(EIGHT, 15), r -> r.fold(6, 7));
        e.due("a cursor that is no more", 3, () -> {
            Room r = at(EIGHT, 0, 5, 7);
            r.setCursor(0);
            return r.fold(1, 4);
        });
        e.due("at the end of the line ahead, and at the beginning of the one behind", 3, () -> at(EIGHT, 3, 10).fold(1, 4));
    }

    private static String unfolded(int line) {
        Room x = folded();
        int opened = x.unfold(line);
        return opened + ": " + Check.hidden(x);
    }

    private static void promise32(Edge e) {
        e.says("Opens the fold that has a line");
        e.due("its first line", "2: 5", unfolded(2));
        e.due("its last line", "2: 5", unfolded(3));
        e.due("a fold of one line", "1: 2 3", unfolded(5));
        Room lines = Edge.lines(300);
        lines.fold(0, 299);
        e.due("a fold of 299 lines", 299, () -> lines.unfold(150));
        e.due("none are hidden then", 0, () -> lines.count(4));

        e.says("`line`: a line");
        e.nothing("0", 0, EdgeShownTest::folded, r -> r.unfold(0));
        e.nothing("the last one", 0, EdgeShownTest::folded, r -> r.unfold(7));
        Room last = Check.room(EIGHT);
        last.fold(6, 7);
        e.due("the last one, hidden", 1, () -> last.unfold(7));

        e.says("Returns how many lines it had; 0 if the line is not hidden");
        e.due("two folds that touch are one", 4, () -> {
            Room r = Check.room(EIGHT);
            r.fold(0, 2);
            r.fold(2, 4);
            return r.unfold(1);
        });
        e.nothing("the line ahead of a fold", 0, EdgeShownTest::folded, r -> r.unfold(1));
        e.nothing("the line between two folds", 0, EdgeShownTest::folded, r -> r.unfold(4));
        e.nothing("the line behind a fold", 0, EdgeShownTest::folded, r -> r.unfold(6));
        e.nothing("an empty text", 0, Room::new, r -> r.unfold(0));

        e.says("if there is no such line");
        e.refused("8 of 8", Edge.INDEX, r -> r.unfold(8));
        e.refused("-1", Edge.INDEX, r -> r.unfold(-1));
        e.refused("far above", Edge.INDEX, r -> r.unfold(MOST));
        e.refused("far below", Edge.INDEX, r -> r.unfold(LEAST));
        e.refused("1 of an empty text", Edge.INDEX, Room::new, r -> r.unfold(1));
    }

    private static void promise33(Edge e) {
        e.says("Tells whether a line is hidden");
        e.nothing("it changes nothing", 1, EdgeShownTest::folded, r -> Check.bit(r.isHidden(2)));

        e.says("`line`: a line");
        Room last = Check.room(EIGHT);
        last.fold(6, 7);
        e.due("0", 0, () -> Check.bit(last.isHidden(0)));
        e.due("the last one", 1, () -> Check.bit(last.isHidden(7)));

        e.says("Returns whether it is");
        e.due("the line ahead of a fold", 0, () -> Check.bit(folded().isHidden(1)));
        e.due("its first line", 1, () -> Check.bit(folded().isHidden(2)));
        e.due("its last line", 1, () -> Check.bit(folded().isHidden(3)));
        e.due("the line behind it", 0, () -> Check.bit(folded().isHidden(4)));

        e.says("if there is no such line");
        e.refused("8 of 8", Edge.INDEX, r -> Check.bit(r.isHidden(8)));
        e.refused("-1", Edge.INDEX, r -> Check.bit(r.isHidden(-1)));
        e.refused("far above", Edge.INDEX, r -> Check.bit(r.isHidden(MOST)));
        e.refused("far below", Edge.INDEX, r -> Check.bit(r.isHidden(LEAST)));
        Room fewer = Check.room(EIGHT);
        fewer.fold(6, 7);
        fewer.replace(0, 14);
        e.due("a line that was hidden and is no more", "throws.IndexOutOfBoundsException",
                Check.outcome(() -> Check.bit(fewer.isHidden(7))));
    }

    /** Whether a row of a view can be asked for: the view is as high as it has such rows. */
    private static boolean hasRow(Room x, int view, int row) {
        return !Check.outcome(() -> x.rowOf(view, row)).startsWith("throws");
    }

    private static void promise34(Edge e) {
        e.says("Sets a view: two views show rows of lines that are not hidden");
        Room x = Check.room(EIGHT);
        x.setView(0, 2, 3);
        x.setView(1, 5, 2);
        e.due("the view 0", 2, () -> x.rowOf(0, 0));
        e.due("the view 1", 5, () -> x.rowOf(1, 0));

        e.says("(At first each has the top line 0 and the height 10.)");
        for (int view = 0; view <= 1; view++) {
            int v = view;
            Room first = Check.room(EIGHT);
            e.due("top of " + view, 0, () -> first.rowOf(v, 0));
            e.due("row 9 of " + view, true, hasRow(first, view, 9));
            e.due("row 10 of " + view, false, hasRow(first, view, 10));
            e.due("top before of " + view, 0, () -> first.setView(v, 0, 1));
        }

        e.says("`view`: 0 or 1");
        e.due("0", 0, () -> Check.room(EIGHT).setView(0, 1, 1));
        e.due("1", 0, () -> Check.room(EIGHT).setView(1, 1, 1));

        e.says("`top`: its top line, 0 or more; it stays so, whatever becomes of the text");
        Room top = new Room();
        top.setView(0, 7, 3);
        e.due("7 of an empty text", 0, () -> top.rowOf(0, 0));
        Check.tape(top, EIGHT);
        top.type();
        e.due("7 of eight lines", 7, () -> top.rowOf(0, 0));
        top.undo(1);
        e.due("it stays", 7, () -> top.setView(0, 0, 3));
        e.due("0", 0, () -> top.setView(0, MOST, 3));
        e.due("the greatest one", MOST, () -> top.setView(0, 1, 3));

        e.says("`height`: 1 to 40, how many rows it has");
        Room height = Check.room("\n".repeat(60));
        height.setView(1, 3, 1);
        e.due("1: row 0", true, hasRow(height, 1, 0));
        e.due("1: row 1", false, hasRow(height, 1, 1));
        height.setView(1, 3, 40);
        e.due("40: row 39", 42, () -> height.rowOf(1, 39));
        e.due("40: row 40", false, hasRow(height, 1, 40));

        e.says("Returns the top line before");
        e.due("of the other view", 0, () -> {
            Room r = Check.room(EIGHT);
            r.setView(0, 5, 1);
            return r.setView(1, 6, 1);
        });
        e.due("of this view", 5, () -> {
            Room r = Check.room(EIGHT);
            r.setView(0, 5, 1);
            return r.setView(0, 6, 1);
        });

        e.says("if there is no such view");
        e.refused("2", Edge.INDEX, r -> r.setView(2, 0, 1));
        e.refused("-1", Edge.INDEX, r -> r.setView(-1, 0, 1));
        e.refused("far above", Edge.INDEX, r -> r.setView(MOST, 0, 1));
        e.refused("far below", Edge.INDEX, r -> r.setView(LEAST, 0, 1));
        e.refused("2, top and height out of range", Edge.INDEX, r -> r.setView(2, -1, 0));

        e.says("if top is below 0, or height is out of range");
        for (int view = 0; view <= 1; view++) {
            int v = view;
            e.refused("top -1 of " + view, Edge.ARGUMENT, r -> r.setView(v, -1, 3));
            e.refused("top far below of " + view, Edge.ARGUMENT, r -> r.setView(v, LEAST, 3));
            e.refused("height 0 of " + view, Edge.ARGUMENT, r -> r.setView(v, 1, 0));
            e.refused("height 41 of " + view, Edge.ARGUMENT, r -> r.setView(v, 1, 41));
            e.refused("height far above of " + view, Edge.ARGUMENT, r -> r.setView(v, 1, MOST));
            e.refused("height far below of " + view, Edge.ARGUMENT, r -> r.setView(v, 1, LEAST));
        }
    }

    private static Room viewed(Room x, int top, int height) {
        x.setView(1, top, height);
        return x;
    }

    private static void promise35(Edge e) {
        e.says("Returns the line that stands in a row of a view");
        e.nothing("it changes nothing", 1, EdgeShownTest::folded, r -> r.rowOf(1, 1));

        e.says("The row 0 has the greatest line that is not hidden and not greater than the top line (or the last line, if");
        e.due("the top line", 4, () -> viewed(folded(), 4, 3).rowOf(1, 0));
        e.due("the top line is hidden", 1, () -> viewed(folded(), 3, 3).rowOf(1, 0));
        e.due("the top line is the last one", 7, () -> viewed(folded(), 7, 3).rowOf(1, 0));
        e.due("the last line is less", 7, () -> viewed(folded(), 8, 3).rowOf(1, 0));
        e.due("the last line is far less", 7, () -> viewed(folded(), MOST, 3).rowOf(1, 0));
        Room hidden = Check.room(EIGHT);
        hidden.fold(0, 7);
        e.due("the last line is less, and all but the line 0 are hidden", 0, () -> viewed(hidden, 9, 3).rowOf(1, 0));
        e.due("an empty text", 0, () -> viewed(new Room(), 5, 3).rowOf(1, 0));

        e.says("each next row has the next line that is not hidden");
        e.due("row 1, over a fold", 4, () -> viewed(folded(), 1, 5).rowOf(1, 1));
        e.due("row 2, over another one", 6, () -> viewed(folded(), 1, 5).rowOf(1, 2));
        e.due("row 3, the last line", 7, () -> viewed(folded(), 1, 5).rowOf(1, 3));
        e.due("row 1 behind a hidden top line", 4, () -> viewed(folded(), 2, 5).rowOf(1, 1));

        e.says("`view`: 0 or 1");
        e.due("0", 0, () -> viewed(folded(), 4, 3).rowOf(0, 0));
        e.due("1", 4, () -> viewed(folded(), 4, 3).rowOf(1, 0));

        e.says("`row`: 0 to the height less 1");
        e.due("0 of the height 1", 6, () -> viewed(folded(), 6, 1).rowOf(1, 0));
        e.due("39 of the height 40", 40, () -> viewed(Check.room("\n".repeat(60)), 1, 40).rowOf(1, 39));
        e.due("each view has its own height", 7, () -> viewed(folded(), 1, 1).rowOf(0, 4));

        e.says("Returns the line; NONE if there is none");
        e.due("behind the last line", Cursorroom.NONE, () -> viewed(folded(), 1, 5).rowOf(1, 4));
        e.due("behind the line 299", Cursorroom.NONE, () -> viewed(Edge.lines(300), 298, 40).rowOf(1, 39));
        e.due("right behind the line 299", Cursorroom.NONE, () -> viewed(Edge.lines(300), 299, 2).rowOf(1, 1));
        e.due("a line that is gone", Cursorroom.NONE, () -> viewed(Edge.gone("a", "\nb"), 0, 2).rowOf(1, 1));
        e.due("all others are hidden", Cursorroom.NONE, () -> viewed(hidden, 0, 2).rowOf(1, 1));
        e.due("the last row of a high view", Cursorroom.NONE, () -> viewed(folded(), MOST, 40).rowOf(1, 39));
        e.due("row 1 of an empty text", Cursorroom.NONE, () -> new Room().rowOf(0, 1));
    }

    private static void promise35Refused(Edge e) {
        e.says("if there is no such view");
        e.refused("2", Edge.INDEX, r -> r.rowOf(2, 0));
        e.refused("-1", Edge.INDEX, r -> r.rowOf(-1, 0));
        e.refused("far above", Edge.INDEX, r -> r.rowOf(MOST, 0));
        e.refused("far below", Edge.INDEX, r -> r.rowOf(LEAST, 0));
        e.refused("2, a row out of range", Edge.INDEX, r -> r.rowOf(2, -1));

        e.says("if row is out of range");
        e.refused("-1", Edge.ARGUMENT, r -> r.rowOf(0, -1));
        e.refused("the height of the view 0", Edge.ARGUMENT, r -> r.rowOf(0, 5));
        e.refused("the height of the view 1", Edge.ARGUMENT, r -> r.rowOf(1, 7));
        e.refused("10 of a new room", Edge.ARGUMENT, Room::new, r -> r.rowOf(0, 10));
        e.refused("40 of the height 40", Edge.ARGUMENT, () -> viewed(folded(), 0, 40), r -> r.rowOf(1, 40));
        e.refused("far above", Edge.ARGUMENT, r -> r.rowOf(1, MOST));
        e.refused("far below", Edge.ARGUMENT, r -> r.rowOf(1, LEAST));
    }
}
