/** Each sentence of the promises 38 to 45, at its edges: questions about the text. */
final class EdgeTextTest {
    private static final int MOST = Integer.MAX_VALUE;
    private static final int LEAST = Integer.MIN_VALUE;

    private EdgeTextTest() {
    }

    static void run(Document document) {
        promise38(new Edge(document, "P38"));
        promise39(new Edge(document, "P39"));
        promise40(new Edge(document, "P40"));
        promise41(new Edge(document, "P41"));
        promise42(new Edge(document, "P42"));
        promise43(new Edge(document, "P43"));
        promise44(new Edge(document, "P44"));
        promise45(new Edge(document, "P45"));
    }

    private static int count(String text, int what) {
        return Check.room(text).count(what);
    }

    private static void promise38(Edge e) {
        e.says("Returns a count");
        e.nothing("it changes nothing", 3, () -> Check.room("abc"), r -> r.count(0));

        e.says("`what`: 0 for the length of the text, 1 for the lines, 2 for the cursors, 3 for the marks that are set, 4 for");
        e.due("letters: none", 0, () -> count("", 0));
        e.due("letters: 3000", 3000, () -> Edge.letters(3000).count(0));
        e.due("lines: one of an empty text", 1, () -> count("", 1));
        e.due("lines: behind a line end at the end", 2, () -> count("a\n", 1));
        e.due("lines: 300", 300, () -> Edge.lines(300).count(1));
        Room x = Check.room("abcdefgh");
        e.due("cursors: one", 1, () -> x.count(2));
        Check.cursors(x, 0, 1, 2, 3, 4, 5, 6, 8);
        e.due("cursors: eight", 8, () -> x.count(2));
        e.due("marks: none", 0, () -> x.count(3));
        for (int mark = 0; mark < 16; mark++) {
            x.setMark(mark, 0, true);
        }
        e.due("marks: 16", 16, () -> x.count(3));
        e.due("hidden lines: none", 0, () -> x.count(4));
        Room lines = Edge.lines(300);
        lines.fold(0, 299);
        e.due("hidden lines: 299", 299, () -> lines.count(4));
        e.due("tape: empty", 0, () -> lines.count(5));
        Check.tape(lines, "a".repeat(200));
        e.due("tape: 200", 200, () -> lines.count(5));
        e.due("clip: empty", 0, () -> lines.count(6));
        lines.copy(0, 299);
        e.due("clip: a row", 299, () -> lines.count(6));
        lines.copyBlock(0, 300, 0, 40);
        e.due("clip: a block, with its blanks", 12000, () -> lines.count(6));
        e.due("words: none of an empty text", 0, () -> count("", 7));
        e.due("words: none of signs", 0, () -> count("- +\n\t", 7));
        e.due("words: one, the whole text", 1, () -> count("aZ_09", 7));
        e.due("words: at the beginning and the end", 2, () -> count("a b", 7));
        e.due("words: between signs", 1, () -> count(" a ", 7));
        e.due("words: letters that are gone", 1, () -> Edge.gone("a ", "b").count(7));
        e.due("words: a line end parts them", 2, () -> count("a\nb", 7));
        e.due("words: 1500", 1500, () -> Check.room("a ".repeat(1500)).count(7));

        e.says("Returns the number");
        int[] first = {0, 1, 1, 0, 0, 0, 0, 0};
        for (int what = 0; what <= 7; what++) {
            int w = what;
            e.due("of a new room: " + what, first[what], () -> new Room().count(w));
        }

        e.says("if what is out of range");
        e.refused("-1", Edge.ARGUMENT, r -> r.count(-1));
        e.refused("8", Edge.ARGUMENT, r -> r.count(8));
        e.refused("far above", Edge.ARGUMENT, r -> r.count(MOST));
        e.refused("far below", Edge.ARGUMENT, r -> r.count(LEAST));
    }

    private static void promise39(Edge e) {
        e.says("Returns a letter");
        e.nothing("it changes nothing", 'b', () -> Check.room("abc"), r -> r.letterAt(1));

        e.says("`place`: a place, not the end");
        e.due("0", 'a', () -> Check.room("abc").letterAt(0));
        e.due("right ahead of the end", 'c', () -> Check.room("abc").letterAt(2));
        e.due("2999 of a full text", 'a', () -> Edge.letters(3000).letterAt(2999));

        e.says("Returns its code");
        Room x = Check.room("\n\t ~");
        e.due("a line end", 10, () -> x.letterAt(0));
        e.due("a tab", 9, () -> x.letterAt(1));
        e.due("a blank", 32, () -> x.letterAt(2));
        e.due("the greatest one", 126, () -> x.letterAt(3));

        e.says("if there is no such letter");
        e.refused("the end", Edge.INDEX, r -> r.letterAt(37));
        e.refused("a letter that is gone", Edge.INDEX, () -> Edge.gone("a", "b"), r -> r.letterAt(1));
        e.refused("-1", Edge.INDEX, r -> r.letterAt(-1));
        e.refused("0 of an empty text", Edge.INDEX, Room::new, r -> r.letterAt(0));
        e.refused("3000 of a full text", Edge.INDEX, () -> Edge.letters(3000), r -> r.letterAt(3000));
        e.refused("far above", Edge.INDEX, r -> r.letterAt(MOST));
        e.refused("far below", Edge.INDEX, r -> r.letterAt(LEAST));
    }

    private static void promise40(Edge e) {
        e.says("Returns the line of a place");
        e.nothing("it changes nothing", 1, () -> Check.room("a\nb"), r -> r.lineOf(2));

        e.says("`place`: a place");
        e.due("0", 0, () -> Check.room("a\nb").lineOf(0));
        e.due("the end", 1, () -> Check.room("a\nb").lineOf(3));
        e.due("0 of an empty text", 0, () -> new Room().lineOf(0));

        e.says("Returns its line");
        e.due("ahead of a line end", 0, () -> Check.room("a\nb").lineOf(1));
        e.due("behind it", 1, () -> Check.room("a\nb").lineOf(2));
        e.due("the end behind a line end", 1, () -> Check.room("a\n").lineOf(2));
        Room x = Edge.lines(300);
        e.due("the line 299", 299, () -> x.lineOf(299));
        e.due("the line 256", 256, () -> x.lineOf(256));
        e.due("the line 255", 255, () -> x.lineOf(255));
        e.due("the line 1", 1, () -> x.lineOf(1));

        e.says("if there is no such place");
        e.refused("behind the end", Edge.INDEX, r -> r.lineOf(38));
        e.refused("-1", Edge.INDEX, r -> r.lineOf(-1));
        e.refused("1 of an empty text", Edge.INDEX, Room::new, r -> r.lineOf(1));
        e.refused("a place that is gone", Edge.INDEX, () -> Edge.gone("a", "b"), r -> r.lineOf(2));
        e.refused("far above", Edge.INDEX, r -> r.lineOf(MOST));
        e.refused("far below", Edge.INDEX, r -> r.lineOf(LEAST));
    }

    private static void promise41(Edge e) {
        e.says("Returns the column of a place");
        e.nothing("it changes nothing", 1, () -> Check.room("abc"), r -> r.columnOf(1));

        e.says("`place`: a place");
        e.due("0", 0, () -> Check.room("\ta").columnOf(0));
        e.due("the end", 5, () -> Check.room("\ta").columnOf(2));
        e.due("0 of an empty text", 0, () -> new Room().columnOf(0));

        e.says("Returns its column");
        e.due("ahead of a line end", 1, () -> Check.room("a\nb").columnOf(1));
        e.due("behind it", 0, () -> Check.room("a\nb").columnOf(2));
        e.due("the end of a full line", 3000, () -> Edge.letters(3000).columnOf(3000));
        Room tabs = Check.room("\t".repeat(3000));
        tabs.setTab(8);
        e.due("the end of a line of tabs", 24000, () -> tabs.columnOf(3000));

        e.says("if there is no such place");
        e.refused("behind the end", Edge.INDEX, r -> r.columnOf(38));
        e.refused("-1", Edge.INDEX, r -> r.columnOf(-1));
        e.refused("1 of an empty text", Edge.INDEX, Room::new, r -> r.columnOf(1));
        e.refused("far above", Edge.INDEX, r -> r.columnOf(MOST));
        e.refused("far below", Edge.INDEX, r -> r.columnOf(LEAST));
    }

    private static void promise42(Edge e) {
        e.says("Returns the first place of a line whose column is not less than a number, or the end of the line");
        Room x = Check.room("a\tb\n\ncd");
        e.due("column 1", 1, () -> x.placeAt(0, 1));
        e.due("inside a tab", 2, () -> x.placeAt(0, 2));
        e.due("behind the tab", 2, () -> x.placeAt(0, 4));
        e.due("the end of the line", 3, () -> x.placeAt(0, 5));
        e.due("behind the end of the line", 3, () -> x.placeAt(0, 6));
        e.due("an empty line", 4, () -> x.placeAt(1, 1));
        e.due("the last line", 6, () -> x.placeAt(2, 1));
        e.due("behind the end of the text", 7, () -> x.placeAt(2, 3));

        e.says("`line`: a line");
        e.due("0", 0, () -> x.placeAt(0, 0));
        e.due("the last one", 5, () -> x.placeAt(2, 0));
        e.due("the line 299", 299, () -> Edge.lines(300).placeAt(299, 7));

        e.says("`column`: 0 or more");
        e.due("0 of an empty line", 4, () -> x.placeAt(1, 0));
        e.due("the greatest one", 3, () -> x.placeAt(0, MOST));
        e.due("3000", 3000, () -> Edge.letters(3000).placeAt(0, 3000));

        e.says("Returns the place");
        e.nothing("it changes nothing", 1, () -> Check.room("abc"), r -> r.placeAt(0, 1));

        e.says("if there is no such line");
        e.refused("8 of 8", Edge.INDEX, r -> r.placeAt(8, 0));
        e.refused("-1", Edge.INDEX, r -> r.placeAt(-1, 0));
        e.refused("1 of an empty text", Edge.INDEX, Room::new, r -> r.placeAt(1, 0));
        e.refused("a line that is gone", Edge.INDEX, () -> Edge.gone("a", "\n"), r -> r.placeAt(1, 0));
        e.refused("far above", Edge.INDEX, r -> r.placeAt(MOST, 0));
        e.refused("far below", Edge.INDEX, r -> r.placeAt(LEAST, 0));
        e.refused("8 of 8, and a column below 0", Edge.INDEX, r -> r.placeAt(8, -1));

        e.says("if column is below 0");
        e.refused("-1", Edge.ARGUMENT, r -> r.placeAt(0, -1));
        e.refused("far below", Edge.ARGUMENT, r -> r.placeAt(7, LEAST));
    }

    private static int widthOf(int width, String text) {
        Room x = Check.room(text);
        x.setTab(width);
        return x.columnOf(text.length());
    }

    private static void promise43(Edge e) {
        e.says("Sets the tab width");
        Room x = Check.room("\ta\t");
        x.setTab(3);
        e.due("columns change", 6, () -> x.columnOf(3));
        e.due("places at columns too", 2, () -> x.placeAt(0, 4));

        e.says("`width`: 1 to 8");
        e.due("1", 2, () -> widthOf(1, "a\t"));
        e.due("2", 2, () -> widthOf(2, "a\t"));
        e.due("7", 14, () -> widthOf(7, "abcdefg\t"));
        e.due("8", 16, () -> widthOf(8, "abcdefgh\t"));

        e.says("Returns the width before");
        Room y = new Room();
        e.due("4 at first", 4, () -> y.setTab(8));
        e.due("8", 8, () -> y.setTab(1));
        e.due("1", 1, () -> y.setTab(1));

        e.says("if width is out of range");
        e.refused("0", Edge.ARGUMENT, r -> r.setTab(0));
        e.refused("-1", Edge.ARGUMENT, r -> r.setTab(-1));
        e.refused("9", Edge.ARGUMENT, r -> r.setTab(9));
        e.refused("far above", Edge.ARGUMENT, r -> r.setTab(MOST));
        e.refused("far below", Edge.ARGUMENT, r -> r.setTab(LEAST));
    }

    private static int sum(String text) {
        int sum = 0;
        for (char letter : text.toCharArray()) {
            sum = 31 * sum + letter;
        }
        return sum;
    }

    private static void promise44(Edge e) {
        e.says("Returns a sum by which texts can be compared");
        e.nothing("it changes nothing", 97, () -> Check.room("a"), Room::hash);
        e.due("the same letters in another order", false, Check.room("ab").hash() == Check.room("ba").hash());

        e.says("Returns 0 for an empty text; for each letter, from the first one on, the sum becomes 31 times the sum and");
        e.due("an empty text", 0, () -> new Room().hash());
        e.due("one letter", 126, () -> Check.room("~").hash());
        e.due("two letters", 31 * 10 + 9, () -> Check.room("\n\t").hash());
        e.due("round to below 0", -685785664, () -> Check.room("zzzzzz").hash());
        e.due("round, and above 0 again", 215481018, () -> Check.room("zzzzzzz").hash());
        e.due("3000 letters", sum("~ \tz".repeat(750)), () -> Check.room("~ \tz".repeat(750)).hash());
    }

    private static void promise45(Edge e) {
        e.says("Returns the mean number of letters of the lines");
        Room x = Check.room("abc\n\nd");
        e.due("not a whole number", 4.0 / 3.0, x.meanLine());

        e.says("Returns the number of letters without line ends, converted to double, divided by the number of lines");
        e.due("an empty text", 0.0, new Room().meanLine());
        e.due("line ends alone", 0.0, Edge.lines(300).meanLine());
        e.due("a full line", 3000.0, Edge.letters(3000).meanLine());
        e.due("an empty last line counts", 0.5, Check.room("a\n").meanLine());
        e.due("thirds, as a double", 1.0 / 3.0, Check.room("\n\na").meanLine());
        e.due("2701 by 300", 2701.0 / 300.0, Check.room("123456789\n".repeat(299) + "1234567890").meanLine());
    }
}
