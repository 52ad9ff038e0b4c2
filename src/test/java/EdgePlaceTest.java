/** Each sentence of the promises 21 to 28, at its edges: cursors and marks. */
final class EdgePlaceTest {
    private static final int MOST = Integer.MAX_VALUE;
    private static final int LEAST = Integer.MIN_VALUE;

    private EdgePlaceTest() {
    }

    static void run(Document document) {
        promise21(new Edge(document, "P21"));
        promise22(new Edge(document, "P22"));
        promise23(new Edge(document, "P23"));
        promise23Letters(new Edge(document, "P23"));
        promise23Lines(new Edge(document, "P23"));
        promise23Words(new Edge(document, "P23"));
        promise23Paragraphs(new Edge(document, "P23"));
        promise24(new Edge(document, "P24"));
        promise25(new Edge(document, "P25"));
        promise26(new Edge(document, "P26"));
        promise27(new Edge(document, "P27"));
        promise28(new Edge(document, "P28"));
    }

    private static Room at(String text, int... places) {
        Room x = Check.room(text);
        Check.cursors(x, places);
        return x;
    }

    /** A room with letters behind the end that are gone, and one cursor. */
    private static Room gone(String text, String more, int place) {
        Room x = Edge.gone(text, more);
        x.setCursor(place);
        return x;
    }

    private static Room eight() {
        return at("abcdefghij", 0, 1, 2, 3, 4, 5, 6, 7);
    }

    private static void promise21(Edge e) {
        e.says("Makes one cursor of all");
        Room x = eight();
        x.setCursor(4);
        e.due("of eight", 1, () -> x.count(2));
        e.due("at the place", "4", Check.cursors(x));
        Room y = at("abc", 2);
        y.setCursor(2);
        e.due("of one that is there", "2", Check.cursors(y));

        e.says("`place`: its place");
        Room z = Check.room("abc");
        z.setCursor(3);
        e.due("the end", "3", Check.cursors(z));
        z.setCursor(0);
        e.due("0", "0", Check.cursors(z));
        Room empty = new Room();
        empty.setCursor(0);
        e.due("0 of an empty text", "0", Check.cursors(empty));
        Room full = Edge.letters(3000);
        full.setCursor(3000);
        e.due("3000", "3000", Check.cursors(full));

        e.says("Returns how many there were");
        e.due("eight", 8, () -> eight().setCursor(0));
        e.due("one", 1, () -> new Room().setCursor(0));

        e.says("if there is no such place");
        e.refused("-1", Edge.INDEX, r -> r.setCursor(-1));
        e.refused("behind the end", Edge.INDEX, r -> r.setCursor(38));
        e.refused("far above", Edge.INDEX, r -> r.setCursor(MOST));
        e.refused("far below", Edge.INDEX, r -> r.setCursor(LEAST));
        e.refused("1 of an empty text", Edge.INDEX, Room::new, r -> r.setCursor(1));
        e.refused("3001 of a full text", Edge.INDEX, () -> Edge.letters(3000), r -> r.setCursor(3001));
    }

    private static void promise22(Edge e) {
        e.says("Adds a cursor");
        Room x = at("abcdef", 3);
        x.addCursor(5);
        x.addCursor(1);
        e.due("behind and ahead of the first one", "1 3 5", Check.cursors(x));
        e.nothing("one that is there", 3, () -> at("abc", 0, 1, 3), r -> r.addCursor(1));

        e.says("`place`: its place");
        Room y = at("abc", 1);
        y.addCursor(0);
        y.addCursor(3);
        e.due("0 and the end", "0 1 3", Check.cursors(y));
        Room empty = new Room();
        e.due("0 of an empty text", 1, () -> empty.addCursor(0));

        e.says("Returns how many there are then");
        Room z = Check.room("abcdefghij");
        for (int place = 1; place < 8; place++) {
            int p = place;
            e.due("cursor " + place, place + 1, () -> z.addCursor(p));
        }
        e.due("one that is there", 8, () -> z.addCursor(7));

        e.says("if there is no such place");
        e.refused("-1", Edge.INDEX, r -> r.addCursor(-1));
        e.refused("behind the end", Edge.INDEX, r -> r.addCursor(38));
        e.refused("far above", Edge.INDEX, r -> r.addCursor(MOST));
        e.refused("far below", Edge.INDEX, r -> r.addCursor(LEAST));
        e.refused("with eight cursors", Edge.INDEX, EdgePlaceTest::eight, r -> r.addCursor(11));

        e.says("if there are 8, none of which is there");
        e.refused("the ninth at the end", Edge.STATE, EdgePlaceTest::eight, r -> r.addCursor(10));
        e.refused("the ninth between", Edge.STATE, () -> at("abcdefghij", 1, 2, 3, 4, 5, 6, 8, 9), r -> r.addCursor(7));
        e.refused("the ninth ahead", Edge.STATE, () -> at("abcdefghij", 1, 2, 3, 4, 5, 6, 7, 8), r -> r.addCursor(0));
        e.nothing("there with eight, the first one", 8, EdgePlaceTest::eight, r -> r.addCursor(0));
        e.nothing("there with eight, the last one", 8, EdgePlaceTest::eight, r -> r.addCursor(7));
        e.due("the eighth", 8, () -> at("abcdefghij", 0, 1, 2, 3, 4, 5, 6).addCursor(10));
    }

    private static String moved(Room x, int way, int by) {
        x.moveCursors(way, by);
        return Check.cursors(x);
    }

    private static void promise23(Edge e) {
        e.says("Moves all cursors");
        e.due("eight", "2 3 4 5 6 7 8 9", moved(eight(), Cursorroom.LETTERS, 2));

        e.says("`way`: LETTERS to PARAGRAPHS");
        String text = "ab c\nde f\n\ng";
        e.due("LETTERS is 0", "2", moved(at(text, 1), 0, 1));
        e.due("LINES is 1", "6", moved(at(text, 1), 1, 1));
        e.due("WORDS is 2", "4", moved(at(text, 2), 2, 1));
        e.due("ENDS is 3", "4", moved(at(text, 1), 3, 1));
        e.due("PARAGRAPHS is 4", "11", moved(at(text, 1), 4, 1));

        e.says("`by`: -50 to 50; 0 moves none");
        e.due("50", "150", moved(at("a".repeat(300), 100), Cursorroom.LETTERS, 50));
        e.due("-50", "50", moved(at("a".repeat(300), 100), Cursorroom.LETTERS, -50));
        e.due("50 lines", "150", moved(at("\n".repeat(299), 100), Cursorroom.LINES, 50));
        e.due("-50 lines", "50", moved(at("\n".repeat(299), 100), Cursorroom.LINES, -50));
        e.due("50 words", "100", moved(at(" a".repeat(100), 0), Cursorroom.WORDS, 50));
        e.due("-50 words", "101", moved(at(" a".repeat(100), 200), Cursorroom.WORDS, -50));
        e.due("50 paragraphs", "150", moved(at("a\n\n".repeat(90), 0), Cursorroom.PARAGRAPHS, 50));
        e.due("-50 paragraphs", "120", moved(at("a\n\n".repeat(90), 270), Cursorroom.PARAGRAPHS, -50));
        for (int way = Cursorroom.LETTERS; way <= Cursorroom.PARAGRAPHS; way++) {
            int w = way;
            e.nothing("0, way " + way, 3, () -> at(text, 1, 6, 8), r -> r.moveCursors(w, 0));
        }

        e.says("Returns how many cursors there are then");
        e.due("eight", 8, () -> eight().moveCursors(Cursorroom.LETTERS, 3));
        e.due("seven: two come together at the end", 7, () -> eight().moveCursors(Cursorroom.LETTERS, 4));
        e.due("one", 1, () -> eight().moveCursors(Cursorroom.LETTERS, -50));
        e.due("one in an empty text", 1, () -> new Room().moveCursors(Cursorroom.PARAGRAPHS, 50));

        e.says("if way or by is out of range");
        e.refused("way -1", Edge.ARGUMENT, r -> r.moveCursors(-1, 1));
        e.refused("way 5", Edge.ARGUMENT, r -> r.moveCursors(5, 1));
        e.refused("way 5, by 0", Edge.ARGUMENT, r -> r.moveCursors(5, 0));
        e.refused("way far above", Edge.ARGUMENT, r -> r.moveCursors(MOST, 1));
        e.refused("way far below", Edge.ARGUMENT, r -> r.moveCursors(LEAST, 1));
        for (int way = Cursorroom.LETTERS; way <= Cursorroom.PARAGRAPHS; way++) {
            int w = way;
            e.refused("by 51, way " + way, Edge.ARGUMENT, r -> r.moveCursors(w, 51));
            e.refused("by -51, way " + way, Edge.ARGUMENT, r -> r.moveCursors(w, -51));
        }
        e.refused("by far above", Edge.ARGUMENT, r -> r.moveCursors(0, MOST));
        e.refused("by far below", Edge.ARGUMENT, r -> r.moveCursors(1, LEAST));
    }

    private static void promise23Letters(Edge e) {
        e.says("LETTERS: by so many places, as far as there are some");
        e.due("up to the end", "3", moved(at("abc", 1), 0, 2));
        e.due("not over letters that are gone", "3", moved(gone("abc", "d", 0), 0, 5));
        e.due("not over it", "3", moved(at("abc", 1), 0, 3));
        e.due("up to the beginning", "0", moved(at("abc", 2), 0, -2));
        e.due("not over it either", "0", moved(at("abc", 2), 0, -3));
        e.due("over line ends", "3", moved(at("a\n\nb", 1), 0, 2));
        e.due("each as far as it can", "2 3", moved(at("abc", 0, 2), 0, 2));
        e.due("an empty text", "0", moved(new Room(), 0, 50));
        e.due("an empty text, back", "0", moved(new Room(), 0, -50));

        e.says("ENDS: to the beginning of its line (by below 0), or its end (by above 0)");
        e.due("by 1", "3", moved(at("abc\nde", 1), 3, 1));
        e.due("by 50: no further", "3", moved(at("abc\nde", 1), 3, 50));
        e.due("by -1", "4", moved(at("abc\nde\nf", 5), 3, -1));
        e.due("by -50: no further", "4", moved(at("abc\nde\nf", 5), 3, -50));
        e.due("at the line end already", "3", moved(at("abc\nde", 3), 3, 1));
        e.due("at the beginning already", "4", moved(at("abc\nde", 4), 3, -1));
        e.due("the end of the text", "6", moved(at("abc\nde", 4), 3, 1));
        e.due("an empty line", "2", moved(at("a\n\nb", 2), 3, -1));
        e.due("an empty line, the other way", "2", moved(at("a\n\nb", 2), 3, 1));
    }

    private static void promise23Lines(Edge e) {
        e.says("LINES: by so many lines that are not hidden, as far as there are some, to the first place of the line");
        e.due("up to the last line", "5", moved(at("a\nb\nc", 1), 1, 2));
        e.due("not over it", "5", moved(at("a\nb\nc", 1), 1, 3));
        e.due("up to the first line", "1", moved(at("a\nb\nc", 5), 1, -2));
        e.due("not over it either", "1", moved(at("a\nb\nc", 5), 1, -3));
        e.due("in the last line already", "4", moved(at("a\nb\nc", 4), 1, 1));
        e.due("behind a tab in the last line already", "4", moved(at("a\n\tbc", 4), 1, 1));
        e.due("the same column", "5", moved(at("abc\ndef", 1), 1, 1));
        e.due("column 0", "4", moved(at("abc\ndef", 0), 1, 1));
        e.due("the end of a shorter line", "6", moved(at("abc\nde", 3), 1, 1));
        e.due("the end of an empty line", "4", moved(at("abc\n", 3), 1, 1));
        e.due("a column inside a tab: behind it", "6", moved(at("abcd\n\te", 1), 1, 1));
        e.due("the column ahead of a tab", "5", moved(at("abcd\n\te", 0), 1, 1));
        e.due("the column behind a tab", "6", moved(at("abcd\n\te", 4), 1, 1));
        e.due("from behind a tab", "7", moved(at("\ta\nbcdefgh", 1), 1, 1));
        Room x = at("a\nb\nc\nd\ne", 0);
        x.fold(1, 3);
        e.due("the line ahead of hidden ones", "2", moved(x, 1, 1));
        e.due("over the hidden ones", "8", moved(x, 1, 1));
        e.due("back over them", "2", moved(x, 1, -1));
        Room last = at("a\nb\nc", 0);
        last.fold(0, 2);
        e.nothing("all others are hidden", 1, () -> {
            Room r = at("a\nb\nc", 1);
            r.fold(0, 2);
            return r;
        }, r -> r.moveCursors(1, 50));
        e.due("the last lines are hidden", "0", moved(last, 1, 2));
        Room two = at("a\nb\nc\nd", 0);
        two.fold(1, 3);
        e.due("fewer are shown than asked for", "2", moved(two, 1, 50));
    }

    private static void promise23Words(Edge e) {
        e.says("WORDS: so many times, forward (by above 0) over all letters that are none of words, and then over all");
        e.due("from the beginning of a word", "2", moved(at("ab cd", 0), 2, 1));
        e.due("from its end", "5", moved(at("ab cd", 2), 2, 1));
        e.due("signs alone up to the end", "4", moved(at("ab -", 2), 2, 1));
        e.due("at the end", "5", moved(at("ab cd", 5), 2, 50));
        e.due("more often than there are words", "5", moved(at("ab cd", 0), 2, 3));
        e.due("over line ends and tabs", "5", moved(at("a\n\t\nb", 1), 2, 1));
        e.due("back from the end of a word", "3", moved(at("ab cd", 5), 2, -1));
        e.due("back from its beginning", "0", moved(at("ab cd", 3), 2, -1));
        e.due("back over signs alone", "0", moved(at("- ab", 2), 2, -1));
        e.due("back at the beginning", "0", moved(at("ab cd", 0), 2, -50));
        e.due("back more often than there are words", "0", moved(at("ab cd", 5), 2, -3));
        e.due("the word that ends a full text", "3000", moved(Edge.letters(3000), 2, 1));
        e.due("letters that are gone", "2", moved(gone("ab", "cd", 0), 2, 1));
        e.due("signs that are gone", "2", moved(gone("--", "--a", 0), 2, 1));
        e.due("an empty text", "0", moved(new Room(), 2, 1));
        e.due("an empty text, back", "0", moved(new Room(), 2, -1));
        for (char letter : new char[] {'A', 'Z', 'a', 'z', '0', '9', '_'}) {
            e.due("a letter of words: " + letter, "1", moved(at(letter + "-", 0), 2, 1));
            e.due("a letter of words, back: " + letter, "1", moved(at("-" + letter, 2), 2, -1));
        }
        for (char letter : new char[] {'@', '[', '`', '{', '/', ':', '^', '~', ' ', '\t', '\n'}) {
            e.due("none of words: " + (int) letter, "1", moved(at("a" + letter + "a", 0), 2, 1));
            e.due("none of words, back: " + (int) letter, "2", moved(at("a" + letter + "a", 3), 2, -1));
        }
    }

    private static void promise23Paragraphs(Edge e) {
        e.says("PARAGRAPHS: so many times to the beginning of the next paragraph, or the end of the text; backward to");
        String text = "a\nb\n\nc\n \td\n\t \n\ne";
        // The lines begin at 0, 2, 4, 5, 7, 11, 14 and 15, the paragraphs at 0, 5 and 15; the end is 16.
        e.due("the next one", "5", moved(at(text, 0), 4, 1));
        e.due("from right ahead of it", "5", moved(at(text, 4), 4, 1));
        e.due("from its beginning", "15", moved(at(text, 5), 4, 1));
        e.due("two", "15", moved(at(text, 0), 4, 2));
        e.due("no other one: the end", "16", moved(at(text, 15), 4, 1));
        e.due("more than there are", "16", moved(at(text, 0), 4, 50));
        e.due("at the end", "16", moved(at(text, 16), 4, 1));
        e.due("back from right behind a beginning", "15", moved(at(text, 16), 4, -1));
        e.due("back from a beginning", "5", moved(at(text, 15), 4, -1));
        e.due("back two", "5", moved(at(text, 16), 4, -2));
        e.due("back to the first one", "0", moved(at(text, 5), 4, -1));
        e.due("back more than there are", "0", moved(at(text, 16), 4, -50));
        e.due("back at the place 0", "0", moved(at(text, 0), 4, -1));
        e.due("none is less: the place 0", "0", moved(at("\n\na", 2), 4, -1));
        e.due("blank lines alone", "0", moved(at("\n \n\t", 3), 4, -1));
        e.due("a full text with a blank line at its end", "3000", moved(at("a".repeat(2990) + "\n" + " ".repeat(9), 0), 4, 1));
        Room lines = Check.room("abc\n");
        Check.tape(lines, "\n\nb");
        lines.replace(0, 4);
        lines.undo(1);
        lines.setCursor(0);
        e.due("a paragraph that is gone", "4", moved(lines, 4, 1));
        e.due("letters of a line that are gone", "4", moved(gone("a\n\n ", "b", 0), 4, 1));
        e.due("blank lines alone, forward", "4", moved(at("\n \n\t", 0), 4, 1));

        e.says("A paragraph begins at a line that is not blank and is the line 0 or follows a blank one");
        e.due("the line 0", "0", moved(at("a", 1), 4, -1));
        e.due("behind a blank line 0", "3", moved(at(" \t\na", 0), 4, 1));
        e.due("not a line that follows one that is not blank", "3", moved(at("a\nb", 0), 4, 1));
        e.due("not a blank one that follows a blank one", "4", moved(at("\n\n \n", 0), 4, 1));
        e.due("behind a line of no letter", "2", moved(at("\n\na", 0), 4, 1));
        e.due("behind a line of a blank and a tab", "6", moved(at("ab\n \t\nc", 0), 4, 1));
    }

    private static void promise24(Edge e) {
        e.says("Returns the place of a cursor");
        e.nothing("it changes nothing", 3, () -> at("abc", 1, 3), r -> r.cursorAt(1));

        e.says("`cursor`: a cursor");
        e.due("0", 0, () -> eight().cursorAt(0));
        e.due("7", 7, () -> eight().cursorAt(7));

        e.says("Returns its place");
        e.due("3000", 3000, () -> {
            Room r = Edge.letters(3000);
            r.setCursor(3000);
            return r.cursorAt(0);
        });
        e.due("0", 0, () -> new Room().cursorAt(0));

        e.says("if there is no such cursor");
        e.refused("3 of three", Edge.INDEX, r -> r.cursorAt(3));
        e.refused("-1", Edge.INDEX, r -> r.cursorAt(-1));
        e.refused("8 of eight", Edge.INDEX, EdgePlaceTest::eight, r -> r.cursorAt(8));
        e.refused("1 of one", Edge.INDEX, Room::new, r -> r.cursorAt(1));
        e.refused("one that is no more", Edge.INDEX, () -> {
            Room r = eight();
            r.setCursor(3);
            return r;
        }, r -> r.cursorAt(1));
        e.refused("far above", Edge.INDEX, r -> r.cursorAt(MOST));
        e.refused("far below", Edge.INDEX, r -> r.cursorAt(LEAST));
    }

    private static Room marked(int mark, int place, boolean isLeft) {
        Room x = Check.room("abc");
        x.setMark(mark, place, isLeft);
        return x;
    }

    private static void promise25(Edge e) {
        e.says("Sets a mark (also one that is set)");
        Room x = marked(5, 1, true);
        x.setMark(5, 3, false);
        e.due("its new place", "5:3", Check.marks(x));
        Check.tape(x, "-");
        x.replace(3, 3);
        e.due("it leans as it was set last", "5:4", Check.marks(x));
        x.setMark(5, 4, true);
        x.replace(4, 4);
        e.due("and left again", "5:4", Check.marks(x));

        e.says("`mark`: 0 to 15");
        e.due("0", "0:1", Check.marks(marked(0, 1, true)));
        e.due("15", "15:1", Check.marks(marked(15, 1, true)));

        e.says("`place`: its place");
        e.due("0", "7:0", Check.marks(marked(7, 0, false)));
        e.due("the end", "7:3", Check.marks(marked(7, 3, false)));
        e.due("0 of an empty text", Cursorroom.NONE, () -> new Room().setMark(0, 0, true));

        e.says("`isLeft`: whether it leans left");
        Room left = marked(1, 2, true);
        Check.tape(left, "-");
        left.replace(2, 2);
        e.due("left", "1:2", Check.marks(left));
        Room right = marked(1, 2, false);
        Check.tape(right, "-");
        right.replace(2, 2);
        e.due("right", "1:3", Check.marks(right));

        e.says("Returns the place at which it was; NONE if it was not set");
        e.due("not set", Cursorroom.NONE, () -> Check.room("abc").setMark(15, 3, false));
        e.due("set at 0", 0, () -> marked(15, 0, false).setMark(15, 3, false));
        e.due("set at the end", 3, () -> marked(15, 3, false).setMark(15, 3, false));
        e.due("another one is set", Cursorroom.NONE, () -> marked(15, 3, false).setMark(14, 3, false));

        e.says("if there is no such mark or place");
        e.refused("mark -1", Edge.INDEX, r -> r.setMark(-1, 0, true));
        e.refused("mark 16", Edge.INDEX, r -> r.setMark(16, 0, true));
        e.refused("mark far above", Edge.INDEX, r -> r.setMark(MOST, 0, true));
        e.refused("place -1", Edge.INDEX, r -> r.setMark(0, -1, false));
        e.refused("place behind the end", Edge.INDEX, r -> r.setMark(0, 38, false));
        e.refused("place far above", Edge.INDEX, r -> r.setMark(1, MOST, true));
        e.refused("place far below", Edge.INDEX, r -> r.setMark(1, LEAST, true));
    }

    private static void promise26(Edge e) {
        e.says("Takes a mark away");
        Room x = marked(3, 1, true);
        x.setMark(4, 1, true);
        x.dropMark(3);
        e.due("only it", "4:1", Check.marks(x));
        e.nothing("one that is not set", Cursorroom.NONE, () -> marked(3, 1, true), r -> r.dropMark(4));

        e.says("`mark`: 0 to 15");
        e.due("0", 2, () -> marked(0, 2, true).dropMark(0));
        e.due("15", 2, () -> marked(15, 2, true).dropMark(15));

        e.says("Returns the place at which it was; NONE if it was not set");
        e.due("0", 0, () -> marked(9, 0, true).dropMark(9));
        e.due("the end", 3, () -> marked(9, 3, true).dropMark(9));
        e.due("not set", Cursorroom.NONE, () -> new Room().dropMark(9));
        Room twice = marked(9, 3, true);
        twice.dropMark(9);
        e.due("taken away already", Cursorroom.NONE, () -> twice.dropMark(9));

        e.says("if there is no such mark");
        e.refused("-1", Edge.INDEX, r -> r.dropMark(-1));
        e.refused("16", Edge.INDEX, r -> r.dropMark(16));
        e.refused("far above", Edge.INDEX, r -> r.dropMark(MOST));
        e.refused("far below", Edge.INDEX, r -> r.dropMark(LEAST));
    }

    private static void promise27(Edge e) {
        e.says("Returns the place of a mark");
        e.nothing("it changes nothing", 1, () -> marked(3, 1, true), r -> r.markAt(3));

        e.says("`mark`: 0 to 15");
        e.due("0", 2, () -> marked(0, 2, true).markAt(0));
        e.due("15", 2, () -> marked(15, 2, true).markAt(15));

        e.says("Returns its place; NONE if it is not set");
        e.due("place 0", 0, () -> marked(8, 0, true).markAt(8));
        e.due("the end", 3, () -> marked(8, 3, true).markAt(8));
        e.due("not set", Cursorroom.NONE, () -> marked(8, 3, true).markAt(7));

        e.says("if there is no such mark");
        e.refused("-1", Edge.INDEX, r -> r.markAt(-1));
        e.refused("16", Edge.INDEX, r -> r.markAt(16));
        e.refused("far above", Edge.INDEX, r -> r.markAt(MOST));
        e.refused("far below", Edge.INDEX, r -> r.markAt(LEAST));
    }

    /** Marks at 2 (5 and 3) and at 4 (0 and 15), in a text of six letters. */
    private static Room beside() {
        Room x = Check.room("abcdef");
        x.setMark(5, 2, true);
        x.setMark(3, 2, false);
        x.setMark(15, 4, true);
        x.setMark(0, 4, false);
        return x;
    }

    private static void promise28(Edge e) {
        e.says("Returns the mark next to a place");
        e.nothing("it changes nothing", 3, EdgePlaceTest::beside, r -> r.markBeside(0, true));

        e.says("`place`: a place");
        e.due("0", 3, () -> beside().markBeside(0, true));
        e.due("the end", 0, () -> beside().markBeside(6, false));
        Room ends = marked(1, 0, true);
        ends.setMark(2, 3, true);
        e.due("0, a mark there", 1, () -> ends.markBeside(0, false));
        e.due("the end, a mark there", 2, () -> ends.markBeside(3, true));

        e.says("`isForward`: whether it is the one with the least place that is not less, otherwise that with the greatest");
        e.due("at the place, forward", 3, () -> beside().markBeside(2, true));
        e.due("one behind it, forward", 0, () -> beside().markBeside(3, true));
        e.due("at the place, back", 0, () -> beside().markBeside(4, false));
        e.due("one ahead of it, back", 3, () -> beside().markBeside(3, false));

        e.says("Returns the mark, of several at that place the one with the least number; NONE if there is none");
        e.due("3 and 5", 3, () -> beside().markBeside(1, true));
        e.due("0 and 15", 0, () -> beside().markBeside(5, false));
        e.due("none is not less", Cursorroom.NONE, () -> beside().markBeside(5, true));
        e.due("none is not greater", Cursorroom.NONE, () -> beside().markBeside(1, false));
        e.due("none is set, forward", Cursorroom.NONE, () -> new Room().markBeside(0, true));
        e.due("none is set, back", Cursorroom.NONE, () -> new Room().markBeside(0, false));

        e.says("if there is no such place");
        e.refused("-1", Edge.INDEX, r -> r.markBeside(-1, true));
        e.refused("-1, back", Edge.INDEX, r -> r.markBeside(-1, false));
        e.refused("behind the end", Edge.INDEX, r -> r.markBeside(38, true));
        e.refused("behind the end, back", Edge.INDEX, r -> r.markBeside(38, false));
        e.refused("far above", Edge.INDEX, r -> r.markBeside(MOST, false));
        e.refused("far below", Edge.INDEX, r -> r.markBeside(LEAST, true));
    }
}
