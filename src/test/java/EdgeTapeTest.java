/** Each sentence of the promises 1 to 5, at its edges: a new object, the tape and the clip. */
final class EdgeTapeTest {
    private static final long[] FAR = {Long.MIN_VALUE, Long.MAX_VALUE, -1, 0x8000000000000061L, 0x6161616161616101L};

    private EdgeTapeTest() {
    }

    static void run(Document document) {
        promise01(new Edge(document, "P1"));
        promise02(new Edge(document, "P2"));
        promise02Refused(new Edge(document, "P2"));
        promise03(new Edge(document, "P3"));
        promise04(new Edge(document, "P4"));
        promise05(new Edge(document, "P5"));
        promise05Refused(new Edge(document, "P5"));
    }

    private static void promise01(Edge e) {
        e.says("an empty text, a cursor at its beginning, no marks, no pattern and nothing kept");
        Room x = new Room();
        e.due("letters", 0, () -> x.count(0));
        e.due("lines", 1, () -> x.count(1));
        e.due("one cursor", 1, () -> x.count(2));
        e.due("at the beginning", 0, () -> x.cursorAt(0));
        e.due("marks", 0, () -> x.count(3));
        e.due("no mark", "", Check.marks(x));
        e.due("hidden lines", 0, () -> x.count(4));
        e.due("tape", 0, () -> x.count(5));
        e.due("clip", 0, () -> x.count(6));
        e.due("acts", 0, () -> x.acts(0) + x.acts(1) + x.acts(2) + x.acts(3));
        e.due("no difference to the empty text that is kept", 0, x::differences);
        e.due("no steps", 0, () -> x.record(false));
        e.refused("no pattern to find", Edge.STATE, Room::new, r -> r.find(0, true));
        e.refused("no pattern to replace", Edge.STATE, Room::new, Room::replaceNext);
        e.refused("no pattern to replace all", Edge.STATE, Room::new, Room::replaceAll);
        Room one = new Room();
        Room other = new Room();
        Check.tape(one, "a");
        one.type();
        e.due("two rooms have nothing in common", 0, () -> other.count(0) + other.count(5) + other.acts(0));
    }

    private static void promise02(Edge e) {
        e.says("Puts letters behind the tape: the bytes of a number, the highest one first, without those that are 0");
        Room x = new Room();
        x.feed(0x4142434445464748L);
        x.feed(0x0069006a00006b00L);
        x.feed(0x6c00000000000000L);
        x.feed(0);
        x.feed(0x7eL);
        x.type();
        e.dueText("eight bytes, some, the highest one, none, the lowest one", "ABCDEFGHijkl~", x);

        e.says("`letters`: the number");
        Room y = new Room();
        e.due("0, the least one that is fed", 0, () -> y.feed(0));
        e.due("9, the least one that feeds a letter", 1, () -> y.feed(9));
        e.due("the greatest one", 9, () -> y.feed(0x7e7e7e7e7e7e7e7eL));
        y.type();
        e.dueText("its letters", "\t~~~~~~~~", y);

        e.says("Returns the length of the tape");
        Room z = new Room();
        e.due("empty", 0, () -> z.feed(0));
        e.due("eight more", 8, () -> z.feed(0x6161616161616161L));
        e.due("one more", 9, () -> z.feed(0x61L));
        e.due("none more", 9, () -> z.feed(0));
    }

    private static void promise02Refused(Edge e) {
        e.says("if a byte is neither 0 nor the code of a letter");
        for (int code = 0; code <= 255; code++) {
            long number = code;
            boolean isFed = code == 0 || code == 9 || code == 10 || code >= 32 && code <= 126;
            String due = isFed ? code == 0 ? "0" : "1" : "throws.IllegalArgumentException";
            e.due("the code " + code, due, Check.outcome(() -> new Room().feed(number)));
        }
        for (int code : new int[] {1, 8, 11, 31, 127, 128, 255}) {
            for (int shift : new int[] {0, 24, 56}) {
                long number = 0x6161616161616161L & ~(255L << shift) | (long) code << shift;
                e.refused("the code " + code + " in the byte " + shift / 8, Edge.ARGUMENT, r -> r.feed(number));
            }
        }
        for (long number : FAR) {
            e.refused("the number " + number, Edge.ARGUMENT, r -> r.feed(number));
        }

        e.says("if the tape would be longer than 200 letters");
        e.due("200", 200, () -> tape(199).feed('b'));
        e.refused("201", Edge.STATE, () -> tape(200), r -> r.feed('b'));
        e.due("eight up to 200", 200, () -> tape(192).feed(0x6161616161616161L));
        e.refused("eight up to 201", Edge.STATE, () -> tape(193), r -> r.feed(0x6162636465666768L));
        e.due("0 puts none behind a full one", 200, () -> tape(200).feed(0));
        e.due("zeros are no letters", 200, () -> tape(198).feed(0x0061000000620000L));
        e.refused("three where two fit", Edge.STATE, () -> tape(198), r -> r.feed(0x0061006300620000L));
        e.refused("the other exception comes first", Edge.ARGUMENT, () -> tape(200), r -> r.feed(0x6101L));
    }

    /** A room with so many letters on the tape, and some text. */
    private static Room tape(int many) {
        Room x = Check.room("text");
        Check.tape(x, "a".repeat(many));
        return x;
    }

    private static void promise03(Edge e) {
        e.says("Empties the tape");
        Room x = tape(200);
        x.clearTape();
        e.due("a full one", 0, () -> x.count(5));
        e.due("it types none", 4, x::type);
        e.due("and can be full again", 8, () -> x.feed(0x6161616161616161L));

        e.says("Returns its length before");
        e.due("full", 200, () -> tape(200).clearTape());
        e.due("one letter", 1, () -> tape(1).clearTape());
        e.due("empty", 0, () -> tape(0).clearTape());
        e.due("never fed", 0, () -> new Room().clearTape());
    }

    private static void promise04(Edge e) {
        e.says("Makes the clip the letters of a part of the text");
        Room x = Check.room("abcde");
        x.copy(1, 3);
        x.paste();
        e.dueText("they are pasted", "bcabcde", x);
        x.copyBlock(0, 1, 0, 3);
        x.copy(0, 0);
        e.due("in place of a block", 0, () -> x.count(6));
        Room row = Check.room("ab\ncd");
        row.copyBlock(0, 2, 0, 2);
        row.copy(1, 4);
        row.addCursor(5);
        row.paste();
        e.dueText("a row then, no block any more", "b\ncab\ncdb\nc", row);

        e.says("`from`: the place at which it begins");
        e.due("0", 3, () -> Check.room("abc").copy(0, 3));
        e.due("the end", 0, () -> Check.room("abc").copy(3, 3));
        e.due("in an empty text", 0, () -> new Room().copy(0, 0));

        e.says("`to`: the place at which it ends");
        e.due("0", 0, () -> Check.room("abc").copy(0, 0));
        e.due("the end", 1, () -> Check.room("abc").copy(2, 3));
        e.due("the end of a full text", 3000, () -> Edge.letters(3000).copy(0, 3000));

        e.says("Returns how many letters it has");
        Room y = Check.room("abc");
        e.due("the answer", 2, () -> y.copy(1, 3));
        e.due("and the count", 2, () -> y.count(6));
        e.due("none", 0, () -> y.copy(2, 2));
        e.due("the count of none", 0, () -> y.count(6));

        e.says("if there is no such place, of either");
        e.refused("from -1", Edge.INDEX, r -> r.copy(-1, 3));
        e.refused("from far below", Edge.INDEX, r -> r.copy(Integer.MIN_VALUE, 3));
        e.refused("to behind the end", Edge.INDEX, r -> r.copy(0, 38));
        e.refused("to far behind it", Edge.INDEX, r -> r.copy(0, Integer.MAX_VALUE));
        e.refused("both behind the end", Edge.INDEX, r -> r.copy(38, 38));
        e.refused("from behind the end, and greater than to", Edge.INDEX, r -> r.copy(38, 2));
        e.refused("to below 0, and less than from", Edge.INDEX, r -> r.copy(3, -1));
        e.refused("in an empty text", Edge.INDEX, Room::new, r -> r.copy(0, 1));

        e.says("if from is greater than to");
        e.refused("by one", Edge.ARGUMENT, r -> r.copy(4, 3));
        e.refused("from the end to the beginning", Edge.ARGUMENT, r -> r.copy(37, 0));
    }

    private static void promise05(Edge e) {
        e.says("where the line has no such letter, there is a blank");
        Room x = Check.room("abcd\nxy\n\nz");
        x.copyBlock(0, 4, 1, 2);
        x.replace(0, 10);
        x.paste();
        e.dueText("a longer line, an end of a line, an empty line, a line of one letter", "bc\ny \n  \n  ", x);
        Room tab = Check.room("\tab\n");
        tab.copyBlock(0, 1, 0, 3);
        tab.setCursor(4);
        tab.paste();
        e.dueText("the number of a letter, not its column; no line end", "\tab\n\tab", tab);

        e.due("letters that are gone are none", 1, () -> Edge.gone("a", "bc").copyBlock(0, 1, 0, 3));

        e.says("`line`: the first line");
        e.due("0", 2, () -> Check.room("ab\ncd").copyBlock(0, 1, 0, 2));
        e.due("the last one", 1, () -> Check.room("ab\nc").copyBlock(1, 1, 0, 2));
        e.due("the line 299", 0, () -> Edge.lines(300).copyBlock(299, 1, 0, 1));

        e.says("`lines`: how many lines, 1 or more");
        e.due("1", 2, () -> Check.room("ab\ncd\nef").copyBlock(1, 1, 0, 2));
        e.due("up to the last one", 4, () -> Check.room("ab\ncd\nef").copyBlock(1, 2, 0, 2));
        e.due("all 300", 299, () -> Check.room("a\n".repeat(299)).copyBlock(0, 300, 0, 40));
        Room full = Edge.lines(300);
        full.copyBlock(0, 300, 0, 40);
        e.due("the letters of 300 rows of 40", 12000, () -> full.count(6));

        e.says("`first`: 0 to 200");
        Room wide = Check.room("a".repeat(200) + "bc");
        e.due("0", 1, () -> wide.copyBlock(0, 1, 0, 1));
        e.due("200", 2, () -> wide.copyBlock(0, 1, 200, 2));
        wide.paste();
        e.due("the letter 200", 'b', () -> wide.letterAt(0));
        e.due("199", 2, () -> wide.copyBlock(0, 1, 199, 2));

        e.says("`many`: 1 to 40");
        Room many = Check.room("a".repeat(50));
        e.due("1", 1, () -> many.copyBlock(0, 1, 0, 1));
        e.due("40", 40, () -> many.copyBlock(0, 1, 0, 40));
        e.due("40 of the clip", 40, () -> many.count(6));

        e.says("Returns how many letters of lines were taken, without the blanks that were not there");
        e.due("all there", 4, () -> Check.room("ab\ncd").copyBlock(0, 2, 0, 2));
        e.due("none there", 0, () -> Check.room("ab\ncd").copyBlock(0, 2, 2, 2));
        e.due("blanks that are there", 1, () -> Check.room("  \n ").copyBlock(0, 2, 1, 3));
        e.due("an empty text", 0, () -> new Room().copyBlock(0, 1, 0, 40));
    }

    private static void promise05Refused(Edge e) {
        e.says("if there is no such line, or there are fewer lines from there on");
        e.refused("line -1", Edge.INDEX, r -> r.copyBlock(-1, 1, 0, 1));
        e.refused("line 8 of 8", Edge.INDEX, r -> r.copyBlock(8, 1, 0, 1));
        e.refused("line 8 of 8, no lines", Edge.INDEX, r -> r.copyBlock(8, 0, 0, 1));
        e.refused("a line far above", Edge.INDEX, r -> r.copyBlock(Integer.MAX_VALUE, Integer.MAX_VALUE, 0, 1));
        e.refused("a line far below", Edge.INDEX, r -> r.copyBlock(Integer.MIN_VALUE, 1, 0, 1));
        e.refused("one line fewer", Edge.INDEX, r -> r.copyBlock(6, 3, 0, 1));
        e.refused("far fewer lines", Edge.INDEX, r -> r.copyBlock(1, Integer.MAX_VALUE, 0, 1));
        e.refused("nine lines of 8", Edge.INDEX, r -> r.copyBlock(0, 9, 0, 1));
        e.refused("no such line, and first and many out of range", Edge.INDEX, r -> r.copyBlock(8, 1, -1, 0));
        e.refused("fewer lines, and first and many out of range", Edge.INDEX, r -> r.copyBlock(0, 9, 201, 41));

        e.says("if lines is below 1, or first or many is out of range");
        e.refused("lines 0", Edge.ARGUMENT, r -> r.copyBlock(0, 0, 0, 1));
        e.refused("lines far below", Edge.ARGUMENT, r -> r.copyBlock(7, Integer.MIN_VALUE, 0, 1));
        e.refused("first -1", Edge.ARGUMENT, r -> r.copyBlock(0, 1, -1, 1));
        e.refused("first 201", Edge.ARGUMENT, r -> r.copyBlock(0, 1, 201, 1));
        e.refused("first far above", Edge.ARGUMENT, r -> r.copyBlock(0, 1, Integer.MAX_VALUE, 40));
        e.refused("many 0", Edge.ARGUMENT, r -> r.copyBlock(0, 1, 0, 0));
        e.refused("many 41", Edge.ARGUMENT, r -> r.copyBlock(0, 1, 0, 41));
        e.refused("many far above", Edge.ARGUMENT, r -> r.copyBlock(0, 1, 200, Integer.MAX_VALUE));
        e.refused("many far below", Edge.ARGUMENT, r -> r.copyBlock(0, 1, 0, Integer.MIN_VALUE));
    }
}
