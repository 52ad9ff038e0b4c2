/** Promises 6 to 15: acts, and what they do to cursors, marks and hidden lines. */
final class ActTest {
    private ActTest() {
    }

    static void run() {
        promise06();
        bounds();
        promise07();
        promise08();
        promise09();
        promise10();
        promise10Blocks();
        promise11();
        promise12();
        promise13();
        promise14();
        promise15();
        places();
        folds();
    }

    private static String lines(int many) {
        return "\n".repeat(many - 1);
    }

    private static void promise06() {
        Room x = Check.room("abcd");
        Check.cursors(x, 0, 2, 4);
        Check.tape(x, "-+");
        Check.due("P6 length", 10, x::type);
        Check.due("P6 text", "-+ab-+cd-+", Check.text(x));
        Check.due("P6 cursors", "2 6 10", Check.cursors(x));
        x.clearTape();
        Check.due("P6 empty tape", 10, x::type);
        Check.due("P6 no act", 2, () -> x.acts(0));
        Check.due("P6 undone together", 1, () -> x.undo(1));
        Check.due("P6 text before", "abcd", Check.text(x));
        Check.due("P6 cursors before", "0 2 4", Check.cursors(x));
    }

    private static void bounds() {
        Room x = Check.room("a".repeat(2999));
        Check.tape(x, "b");
        Check.due("P6 3000 letters", 3000, x::type);
        Check.dueThrow("P6 3001 letters", IllegalStateException.class, x::type);
        Check.due("P6 refused: text", 3000, () -> x.count(0));
        Check.due("P6 refused: acts", 16, () -> x.acts(0));
        x.clearTape();
        Check.due("P6 nothing is not refused", 3000, x::type);
        Check.tape(x, "\n");
        Check.due("P8 one for one at the bound", 3000, () -> x.replace(5, 6));
        Room y = Check.room(lines(299));
        Check.tape(y, "\n");
        Check.due("P6 300 lines", 299, y::type);
        Check.due("P6 count of lines", 300, () -> y.count(1));
        Check.dueThrow("P6 301 lines", IllegalStateException.class, y::type);
        Check.due("P6 cursor stays", "1", Check.cursors(y));
        Check.tape(y, "x");
        Check.due("P6 a letter at the line bound", 300, y::type);
        Check.tape(y, "\n\n");
        Check.dueThrow("P8 301 lines", IllegalStateException.class, () -> y.replace(0, 1));
        Check.due("P8 300 lines", 300, () -> y.replace(2, 4));
    }

    private static void promise07() {
        Room x = Check.room("abcdefghij");
        Check.cursors(x, 2, 4, 9);
        Check.due("P7 behind, together", 7, () -> x.erase(4));
        Check.due("P7 text", "abi", Check.text(x));
        Check.due("P7 cursors become one", "2 3", Check.cursors(x));
        Check.due("P7 ahead", 3, () -> x.erase(-100));
        Check.due("P7 all gone", "", Check.text(x));
        Check.due("P7 one cursor", "0", Check.cursors(x));
        Check.due("P7 nothing left", 0, () -> x.erase(100));
        Check.due("P7 no act of nothing", 3, () -> x.acts(0));
        x.undo(1);
        Check.due("P7 by 0", 0, () -> x.erase(0));
        Check.due("P7 text back", "abi", Check.text(x));
        Check.dueThrow("P7 above", IllegalArgumentException.class, () -> x.erase(101));
        Check.dueThrow("P7 below", IllegalArgumentException.class, () -> x.erase(-101));
        Room y = Check.room("abcdefghij");
        Check.cursors(y, 1, 3, 8);
        Check.due("P7 ahead, together", 6, () -> y.erase(-3));
        Check.due("P7 text then", "deij", Check.text(y));
        Check.due("P7 cursors then", "0 2", Check.cursors(y));
    }

    private static void promise08() {
        Room x = Check.room("abcdef");
        Check.tape(x, "XY\n");
        Check.due("P8 length", 6, () -> x.replace(1, 4));
        Check.due("P8 text", "aXY\nef", Check.text(x));
        Check.due("P8 put", 9, () -> x.replace(6, 6));
        x.clearTape();
        Check.due("P8 remove", 8, () -> x.replace(0, 1));
        Check.due("P8 text then", "XY\nefXY\n", Check.text(x));
        Check.due("P8 nothing", 8, () -> x.replace(3, 3));
        Check.due("P8 no act of nothing", 4, () -> x.acts(0));
        Check.tape(x, "XY");
        Check.due("P8 the same letters", 8, () -> x.replace(0, 2));
        Check.due("P8 is an act", 5, () -> x.acts(0));
        Check.dueThrow("P8 from below", IndexOutOfBoundsException.class, () -> x.replace(-1, 2));
        Check.dueThrow("P8 to above", IndexOutOfBoundsException.class, () -> x.replace(9, 9));
        Check.dueThrow("P8 place before order", IndexOutOfBoundsException.class, () -> x.replace(9, 2));
        Check.dueThrow("P8 turned", IllegalArgumentException.class, () -> x.replace(3, 2));
    }

    private static void promise09() {
        Room x = Check.room("hello world");
        x.setCursor(8);
        Check.due("P9 letters", 6, () -> x.cut(5, 11));
        Check.due("P9 text", "hello", Check.text(x));
        Check.due("P9 clip", 6, () -> x.count(6));
        Check.due("P9 cursor", "5", Check.cursors(x));
        Check.dueThrow("P9 place", IndexOutOfBoundsException.class, () -> x.cut(0, 6));
        Check.dueThrow("P9 turned", IllegalArgumentException.class, () -> x.cut(2, 1));
        Check.due("P9 clip unchanged", 6, () -> x.count(6));
        x.setCursor(0);
        x.paste();
        Check.due("P9 pasted", " worldhello", Check.text(x));
        Check.due("P9 empty part", 0, () -> x.cut(4, 4));
        Check.due("P9 empty clip", 0, () -> x.count(6));
        Check.due("P9 no act of nothing", 3, () -> x.acts(0));
        Room y = UndoTest.full();
        y.copy(0, 1);
        Check.dueThrow("P9 refused", IllegalStateException.class, () -> y.cut(0, 2));
        Check.due("P9 refused: the clip stays", 1, () -> y.count(6));
        Check.due("P9 nothing is not refused", 0, () -> y.cut(1, 1));
        Check.due("P9 but makes the clip empty", 0, () -> y.count(6));
    }

    private static void promise10() {
        Room x = Check.room("ab\ncd");
        x.copy(1, 3);
        Check.cursors(x, 0, 5);
        Check.due("P10 length", 9, x::paste);
        Check.due("P10 a row at each cursor", "b\nab\ncdb\n", Check.text(x));
        Check.due("P10 cursors", "2 9", Check.cursors(x));
        Room y = Check.room("a".repeat(2000));
        y.copy(0, 1001);
        Check.dueThrow("P10 refused", IllegalStateException.class, y::paste);
        y.copy(0, 1000);
        Check.due("P10 3000 letters", 3000, y::paste);
    }

    private static void promise10Blocks() {
        Room x = Check.room("abcd\nefgh\nij\n\nk");
        x.copyBlock(0, 3, 1, 2);
        Check.cursors(x, 7, 8);
        x.setMark(0, 13, false);
        x.setMark(1, 13, true);
        Check.due("P10 block: length", 23, x::paste);
        Check.due("P10 block: text", "abcd\nefbcgh\nijfg\n  j \nk", Check.text(x));
        Check.due("P10 block: cursors", "9 10", Check.cursors(x));
        Check.due("P10 block: marks", "0:21 1:17", Check.marks(x));
        Room y = Check.room("abc");
        y.copyBlock(0, 1, 0, 3);
        y.setCursor(3);
        y.paste();
        Check.due("P10 one row at the end", "abcabc", Check.text(y));
        Room z = Check.room("ab\ncd\ne");
        z.copyBlock(0, 3, 0, 2);
        z.setCursor(7);
        z.setMark(0, 7, true);
        Check.due("P10 lines that there are not", 17, z::paste);
        Check.due("P10 their text", "ab\ncd\neab\n cd\n e ", Check.text(z));
        Check.due("P10 one part at the end: cursor", "17", Check.cursors(z));
        Check.due("P10 one part at the end: mark", "0:7", Check.marks(z));
        Room v = Check.room("ab\ncdef");
        v.copyBlock(0, 2, 0, 1);
        v.setCursor(4);
        v.setMark(0, 7, false);
        Check.due("P10 behind a longer last line", 11, v::paste);
        Check.due("P10 text", "ab\ncadef\n c", Check.text(v));
        Check.due("P10 cursor", "5", Check.cursors(v));
        Check.due("P10 mark at the end", "0:11", Check.marks(v));
        Room w = Check.room("\n".repeat(297) + "a\n");
        w.copyBlock(297, 2, 0, 1);
        w.setCursor(299);
        Check.due("P10 300 lines", 302, w::paste);
        w.setCursor(302);
        Check.dueThrow("P10 301 lines", IllegalStateException.class, w::paste);
        Room u = Check.room("a".repeat(2960) + "\n");
        u.copyBlock(0, 2, 0, 40);
        u.setCursor(1);
        Check.dueThrow("P10 block above 3000 letters", IllegalStateException.class, u::paste);
        Check.due("P10 refused: text", 2961, () -> u.count(0));
        Check.due("P10 what comes behind is not refused", 1, () -> u.erase(1));
        Check.tape(u, "b");
        Check.due("P10 nor this", 2961, u::type);
        Room t = Check.room("\n".repeat(99));
        t.copyBlock(0, 100, 0, 40);
        t.replace(0, 99);
        Check.dueThrow("P10 4099 letters into an empty text", IllegalStateException.class, t::paste);
        Check.due("P10 it stays empty", 0, () -> t.count(0));
        t.clearTape();
        t.replace(0, 0);
        Check.dueThrow("P10 refused again", IllegalStateException.class, t::paste);
        Check.tape(t, "a b");
        t.type();
        Check.dueThrow("P10 refused ahead of wrap", IllegalStateException.class, t::paste);
        Check.due("P10 wrap is not refused", 1, () -> t.wrap(0, 1));
    }

    private static void promise11() {
        Room x = Check.room("a\n\n \n\t\tb\nc");
        Check.due("P11 put", 3, () -> x.indent(0, 3, 2));
        Check.due("P11 text", "  a\n\n   \n  \t\tb\nc", Check.text(x));
        Check.due("P11 remove", 3, () -> x.indent(0, 4, -3));
        Check.due("P11 text then", "a\n\n\n\tb\nc", Check.text(x));
        Check.due("P11 one", 1, () -> x.indent(3, 3, -8));
        Check.due("P11 none left", 0, () -> x.indent(0, 4, -1));
        Check.due("P11 no act of nothing", 4, () -> x.acts(0));
        Check.due("P11 empty line", 0, () -> x.indent(1, 2, 8));
        Check.due("P11 cursor at the beginning leans right", 1, () -> x.indent(0, 0, 8));
        Check.due("P11 cursor", "8", Check.cursors(x));
        Check.dueThrow("P11 line", IndexOutOfBoundsException.class, () -> x.indent(0, 5, 1));
        Check.dueThrow("P11 line below", IndexOutOfBoundsException.class, () -> x.indent(-1, 0, 9));
        Check.dueThrow("P11 turned", IllegalArgumentException.class, () -> x.indent(2, 1, 1));
        Check.dueThrow("P11 by 0", IllegalArgumentException.class, () -> x.indent(0, 1, 0));
        Check.dueThrow("P11 by 9", IllegalArgumentException.class, () -> x.indent(0, 1, 9));
        Check.dueThrow("P11 by -9", IllegalArgumentException.class, () -> x.indent(0, 1, -9));
        Check.dueThrow("P11 by least", IllegalArgumentException.class, () -> x.indent(0, 1, Integer.MIN_VALUE));
        Room y = Check.room("a".repeat(2995));
        Check.dueThrow("P11 refused", IllegalStateException.class, () -> y.indent(0, 0, 6));
        Check.due("P11 at the bound", 1, () -> y.indent(0, 0, 5));
    }

    private static String wrapped(String text, int line, int width) {
        Room x = Check.room(text);
        int broken = x.wrap(line, width);
        return broken + ":" + Check.text(x).replace('\n', '/');
    }

    private static void promise12() {
        Check.due("P12 last blank up to the width", "2:aa bb/cc dd/ee", wrapped("aa bb cc dd ee", 0, 5));
        Check.due("P12 not longer than the width", "0:aa bb", wrapped("aa bb", 0, 5));
        Check.due("P12 exactly width ahead", "1:aaaaa/b", wrapped("aaaaa b", 0, 5));
        Check.due("P12 the first one beyond", "1:aaaaaaaa/bb c", wrapped("aaaaaaaa bb c", 0, 4));
        Check.due("P12 no blank", "0:aaaaaaaaaa", wrapped("aaaaaaaaaa", 0, 4));
        Check.due("P12 a blank at the beginning does not count", "1: aaaaaa/b", wrapped(" aaaaaa b", 0, 3));
        Check.due("P12 only a blank at the beginning", "0: aaaaaa", wrapped(" aaaaaa", 0, 3));
        Check.due("P12 row of blanks", "2:a /  /b", wrapped("a     b", 0, 2));
        Check.due("P12 width 1", "2:a/b/c", wrapped("a b c", 0, 1));
        Check.due("P12 tabs are no blanks", "0:aa\tbb\tcc", wrapped("aa\tbb\tcc", 0, 3));
        Check.due("P12 one line alone", "1:a b c/dd/ee/f g h", wrapped("a b c\ndd ee\nf g h", 1, 2));
        Check.due("P12 a blank at the end", "1:aaa/", wrapped("aaa ", 0, 3));
        Room x = Check.room("aa bb");
        x.setCursor(3);
        x.setMark(0, 3, true);
        x.wrap(0, 3);
        Check.due("P12 cursor behind the blank", "3", Check.cursors(x));
        Check.due("P12 left mark behind the blank", "0:2", Check.marks(x));
        Check.due("P12 nothing is no act", 0, () -> x.wrap(0, 100));
        Check.due("P12 acts", 2, () -> x.acts(0));
        Check.dueThrow("P12 line", IndexOutOfBoundsException.class, () -> x.wrap(2, 0));
        Check.dueThrow("P12 line below", IndexOutOfBoundsException.class, () -> x.wrap(-1, 5));
        Check.dueThrow("P12 width 0", IllegalArgumentException.class, () -> x.wrap(0, 0));
        Check.dueThrow("P12 width 101", IllegalArgumentException.class, () -> x.wrap(0, 101));
        Room y = Check.room(lines(299) + "a b c");
        Check.dueThrow("P12 301 lines", IllegalStateException.class, () -> y.wrap(298, 1));
        Check.due("P12 300 lines", 1, () -> y.wrap(298, 3));
    }

    private static void promise13() {
        Room x = Check.room("a\n \t b\n\n  c \nd");
        Check.due("P13 lines left", 2, () -> x.joinLines(0, 3));
        Check.due("P13 text", "a b  c \nd", Check.text(x));
        Check.due("P13 one line", 2, () -> x.joinLines(1, 1));
        Check.due("P13 no act of nothing", 2, () -> x.acts(0));
        x.setCursor(8);
        Check.due("P13 the rest", 1, () -> x.joinLines(0, 1));
        Check.due("P13 text then", "a b  c  d", Check.text(x));
        Check.due("P13 cursor", "8", Check.cursors(x));
        Check.dueThrow("P13 line", IndexOutOfBoundsException.class, () -> x.joinLines(1, 0));
        Check.dueThrow("P13 line below", IndexOutOfBoundsException.class, () -> x.joinLines(0, -1));
        Room y = Check.room("a\n  \n \nb\n");
        Check.dueThrow("P13 turned", IllegalArgumentException.class, () -> y.joinLines(2, 1));
        Check.due("P13 blank lines", 2, () -> y.joinLines(0, 3));
        Check.due("P13 a blank for each line end", "a   b\n", Check.text(y));
        Check.due("P13 last line end", 1, () -> y.joinLines(0, 1));
        Check.due("P13 its blank", "a   b ", Check.text(y));
        Room z = UndoTest.full();
        Check.due("P13 one line is not refused", 2, () -> z.joinLines(1, 1));
        Check.dueThrow("P13 refused", IllegalStateException.class, () -> z.joinLines(0, 1));
    }

    private static void promise14() {
        Room x = Check.room("ab cab ab");
        Check.dueThrow("P14 no pattern", IllegalStateException.class, x::replaceNext);
        Check.tape(x, "ab");
        x.setPattern(false);
        Check.tape(x, "XYZ");
        Check.cursors(x, 1, 3);
        Check.due("P14 next", 4, x::replaceNext);
        Check.due("P14 text", "ab cXYZ ab", Check.text(x));
        Check.due("P14 one cursor", "7", Check.cursors(x));
        Check.due("P14 next again", 8, x::replaceNext);
        Check.due("P14 round", 0, x::replaceNext);
        Check.due("P14 text then", "XYZ cXYZ XYZ", Check.text(x));
        Check.due("P14 none", -1, x::replaceNext);
        Check.due("P14 nothing happens", 4, () -> x.acts(0));
        Check.due("P14 cursor stays", "3", Check.cursors(x));
        x.undo(2);
        x.setCursor(8);
        Check.due("P14 the find at the cursor", 8, x::replaceNext);
        Room y = Check.room("ab".repeat(1499));
        Check.tape(y, "ab");
        y.setPattern(false);
        Check.tape(y, "abcd");
        y.addCursor(3);
        Check.due("P14 at the bound", 0, y::replaceNext);
        y.addCursor(0);
        Check.dueThrow("P14 refused", IllegalStateException.class, y::replaceNext);
        Check.due("P14 refused: cursors stay", "0 4", Check.cursors(y));
        Check.tape(y, "zz");
        y.setPattern(false);
        Check.due("P14 without a find not refused", -1, y::replaceNext);
    }

    private static void promise15() {
        Room x = Check.room("aaaaa b aa");
        Check.dueThrow("P15 no pattern", IllegalStateException.class, x::replaceAll);
        Check.tape(x, "aa");
        x.setPattern(false);
        Check.tape(x, "-");
        Check.cursors(x, 1, 2, 5);
        Check.due("P15 many", 3, x::replaceAll);
        Check.due("P15 text", "--a b -", Check.text(x));
        Check.due("P15 cursors", "0 1 3", Check.cursors(x));
        Check.due("P15 none", 0, x::replaceAll);
        Check.due("P15 one act", 2, () -> x.acts(0));
        x.undo(1);
        Check.tape(x, "aa");
        x.setPattern(true);
        Check.tape(x, "c");
        Check.due("P15 whole words", 1, x::replaceAll);
        Check.due("P15 text", "aaaaa b c", Check.text(x));
        Room y = Check.room("ab".repeat(1000));
        Check.tape(y, "b");
        y.setPattern(false);
        Check.tape(y, "bbb");
        Check.dueThrow("P15 refused", IllegalStateException.class, y::replaceAll);
        Check.tape(y, "bb");
        Check.due("P15 3000 letters", 1000, y::replaceAll);
        Check.due("P15 length", 3000, () -> y.count(0));
        Check.tape(y, "x");
        Check.due("P15 touching finds", 2000, y::replaceAll);
    }

    /** Terms 2: how places move. */
    private static void places() {
        Room x = Check.room("abcdefgh");
        for (int mark = 0; mark < 8; mark++) {
            x.setMark(mark, mark, false);
            x.setMark(mark + 8, mark, true);
        }
        Check.tape(x, "XYZ");
        x.replace(2, 4);
        Check.due("T2 a part", "0:0 1:1 2:2 3:2 4:5 5:6 6:7 7:8 8:0 9:1 10:2 11:2 12:2 13:6 14:7 15:8", Check.marks(x));
        x.undo(1);
        x.replace(2, 2);
        Check.due("T2 a put", "0:0 1:1 2:5 3:6 4:7 5:8 6:9 7:10 8:0 9:1 10:2 11:6 12:7 13:8 14:9 15:10", Check.marks(x));
        x.undo(1);
        Check.cursors(x, 1, 2, 3, 5);
        x.replace(1, 5);
        Check.due("T2 cursors", "1 4", Check.cursors(x));
        Room y = Check.room("aabb");
        y.setMark(0, 2, true);
        y.setMark(1, 2, false);
        Check.tape(y, "aa");
        y.setPattern(false);
        Check.tape(y, "c");
        y.replaceAll();
        Check.due("T2 at the end of a part", "0:0 1:1", Check.marks(y));
        Room z = Check.room("aaaa");
        z.setMark(0, 2, true);
        z.setMark(1, 2, false);
        z.setMark(2, 4, true);
        Check.tape(z, "aa");
        z.setPattern(false);
        Check.tape(z, "xyz");
        z.replaceAll();
        Check.due("T2 between two parts", "0:0 1:3 2:0", Check.marks(z));
    }

    private static Room folded() {
        Room x = Check.room("a\nb\nc\nd\ne\nf\ng\nh");
        x.fold(1, 3);
        x.fold(4, 6);
        return x;
    }

    /** Terms 3: which folds an act opens, and what becomes of the others. */
    private static void folds() {
        Room x = folded();
        Check.due("T3 two folds", "2 3 5 6", Check.hidden(x));
        Check.tape(x, "\n\n");
        x.replace(0, 0);
        Check.due("T3 lines put ahead", "4 5 7 8", Check.hidden(x));
        x.undo(1);
        x.replace(3, 3);
        Check.due("T3 ahead of a fold", "4 5 7 8", Check.hidden(x));
        x.undo(1);
        x.replace(4, 4);
        Check.due("T3 in the first line of a fold", "7 8", Check.hidden(x));
        x.undo(1);
        x.replace(7, 7);
        Check.due("T3 at the end of a fold", "7 8", Check.hidden(x));
        x.undo(1);
        x.replace(8, 8);
        Check.due("T3 behind a fold", "2 3 7 8", Check.hidden(x));
        x.undo(1);
        x.clearTape();
        x.replace(7, 8);
        Check.due("T3 from a fold on", "4 5", Check.hidden(x));
        x.undo(1);
        x.replace(3, 8);
        Check.due("T3 over a fold", "2 3", Check.hidden(x));
        x.undo(1);
        x.replace(0, 2);
        Check.due("T3 a line less", "1 2 4 5", Check.hidden(x));
        x.undo(1);
        Check.tape(x, "!");
        Check.cursors(x, 0, 8, 14);
        x.type();
        Check.due("T3 none touched", "2 3 5 6", Check.hidden(x));
        x.joinLines(5, 6);
        Check.due("T3 joined", "2 3", Check.hidden(x));
    }
}
