/** Each sentence of the promises 11 to 15, at its edges: acts on lines and on finds. */
final class EdgeLineTest {
    private EdgeLineTest() {
    }

    static void run(Document document) {
        promise11(new Edge(document, "P11"));
        promise11Refused(new Edge(document, "P11"));
        promise12(new Edge(document, "P12"));
        promise12Refused(new Edge(document, "P12"));
        promise13(new Edge(document, "P13"));
        promise13Refused(new Edge(document, "P13"));
        promise14(new Edge(document, "P14"));
        promise15(new Edge(document, "P15"));
    }

    /** A room with 300 lines, behind a call that was refused because a block was far too large. */
    private static Room refused() {
        Room x = Check.room("a b\n".repeat(299));
        x.copyBlock(0, 300, 0, 40);
        Check.outcome(x::paste);
        return x;
    }

    private static void promise11(Edge e) {
        e.says("Puts blanks at the beginning of each line of a range that has letters, or removes there as many letters");
        Room x = Check.room("a\n\n \n\t\nb");
        x.indent(0, 4, 1);
        e.dueText("an empty line gets none, one of a blank or a tab does", " a\n\n  \n \t\n b", x);
        Room y = Check.room("\t a\n\t \t\n    b\nc");
        y.indent(0, 3, -3);
        e.dueText("fewer than three, three, more than three, none", "a\n\n b\nc", y);
        Room z = Check.room("a  \n  b");
        z.indent(0, 0, -8);
        e.dueText("not behind another letter, nor in the next line", "a  \n  b", z);
        Room gone = Edge.gone("a\n ", " \t");
        e.due("blanks that are gone are none", 1, () -> gone.indent(1, 1, -8));
        e.dueText("the one that there was", "a\n", gone);
        e.nothing("none put into an empty text", 0, Room::new, r -> r.indent(0, 0, 8));
        e.nothing("none removed where there are none", 0, () -> Check.room("a\n\nb"), r -> r.indent(0, 2, -8));

        e.says("`from`: the first line");
        e.due("0", 2, () -> Check.room("a\nb\nc").indent(0, 1, 1));
        e.due("the last one", 1, () -> Check.room("a\nb\nc").indent(2, 2, 1));

        e.says("`to`: the last line");
        e.due("0", 1, () -> Check.room("a\nb\nc").indent(0, 0, 1));
        e.due("the last one", 3, () -> Check.room("a\nb\nc").indent(0, 2, 1));
        e.due("the line 299", 299, () -> Check.room("a\n".repeat(299)).indent(0, 299, 1));

        e.says("`by`: 1 to 8, how many blanks are put; -1 to -8, how many letters are removed at most");
        Room by = Check.room("a");
        by.indent(0, 0, 1);
        e.dueText("1", " a", by);
        by.indent(0, 0, 8);
        e.dueText("8", " ".repeat(9) + "a", by);
        by.indent(0, 0, -1);
        e.dueText("-1", " ".repeat(8) + "a", by);
        by.indent(0, 0, 1);
        by.indent(0, 0, -8);
        e.dueText("-8", " a", by);

        e.says("Returns how many lines are other ones than ahead");
        e.due("all", 3, () -> Check.room(" \n \n ").indent(0, 2, -1));
        e.due("none", 0, () -> Check.room("a\n\nb").indent(0, 2, -1));
        e.due("those with letters", 2, () -> Check.room("a\n\nb").indent(0, 2, 8));
    }

    private static void promise11Refused(Edge e) {
        e.says("if there is no such line, of either");
        e.refused("from -1", Edge.INDEX, r -> r.indent(-1, 0, 1));
        e.refused("to 8 of 8", Edge.INDEX, r -> r.indent(0, 8, 1));
        e.refused("both far above", Edge.INDEX, r -> r.indent(Integer.MAX_VALUE, Integer.MAX_VALUE, 1));
        e.refused("from 8, greater than to, by 0", Edge.INDEX, r -> r.indent(8, 0, 0));
        e.refused("to -1, less than from, by 9", Edge.INDEX, r -> r.indent(0, -1, 9));
        e.refused("with 150 acts", Edge.INDEX, UndoTest::full, r -> r.indent(0, 2, 1));

        e.says("if from is greater than to, or by is out of range");
        e.refused("from is greater", Edge.ARGUMENT, r -> r.indent(1, 0, 1));
        e.refused("from is the last one", Edge.ARGUMENT, r -> r.indent(7, 6, -1));
        e.refused("by 0", Edge.ARGUMENT, r -> r.indent(0, 7, 0));
        e.refused("by 9", Edge.ARGUMENT, r -> r.indent(0, 7, 9));
        e.refused("by -9", Edge.ARGUMENT, r -> r.indent(0, 7, -9));
        e.refused("by far above", Edge.ARGUMENT, r -> r.indent(0, 7, Integer.MAX_VALUE));
        e.refused("by far below", Edge.ARGUMENT, r -> r.indent(0, 7, Integer.MIN_VALUE));
        e.refused("with 150 acts", Edge.ARGUMENT, UndoTest::full, r -> r.indent(0, 1, 0));

        e.says("if it is refused");
        e.refused("3001 letters", Edge.STATE, () -> Edge.letters(2993), r -> r.indent(0, 0, 8));
        e.due("3000 letters", 1, () -> Edge.letters(2992).indent(0, 0, 8));
        e.refused("two lines up to 3001 letters", Edge.STATE,
                () -> Check.room("a\n" + "a".repeat(2997)), r -> r.indent(0, 1, 1));
        e.due("two lines up to 3000 letters", 2, () -> Check.room("a\n" + "a".repeat(2996)).indent(0, 1, 1));
        e.due("removing from a full text", 1, () -> Check.room(" " + "a".repeat(2999)).indent(0, 0, -1));
        e.refused("the act 151", Edge.STATE, UndoTest::full, r -> r.indent(0, 1, 1));
        e.due("not because a call ahead of it was", 299, () -> refused().indent(0, 299, 1));
        e.due("nothing to remove is no act", 0, () -> UndoTest.full().indent(0, 1, -1));
        e.due("nothing to put is no act", 0, () -> UndoTest.full().indent(0, 0, 1));
    }

    private static void dueWrapped(Edge e, String what, String want, String text, int width) {
        Room x = Check.room(text);
        int broken = x.wrap(0, width);
        e.dueText(what, want.replace('/', '\n'), x);
        e.due(what + ", how many", want.chars().filter(code -> code == '/').count(), () -> broken);
    }

    private static void promise12(Edge e) {
        e.says("Breaks a line at blanks: as long as more than width letters are left");
        dueWrapped(e, "width letters in all", "aa bb", "aa bb", 5);
        dueWrapped(e, "one more than width", "aa/bbb", "aa bbb", 5);
        dueWrapped(e, "width letters left behind a break", "aaaa/bb cc", "aaaa bb cc", 5);
        dueWrapped(e, "one more left behind a break", "aaaa/bb/ccc", "aaaa bb ccc", 5);
        dueWrapped(e, "width letters lie ahead of a blank", "aaaaa/b", "aaaaa b", 5);
        dueWrapped(e, "the last one with at most width ahead", "a b c/d e", "a b c d e", 5);
        dueWrapped(e, "more than width lie ahead of the first one", "aaaaaa/b", "aaaaaa b", 5);
        dueWrapped(e, "the first one of those", "aaaaaa/b c", "aaaaaa b c", 5);
        dueWrapped(e, "no letter ahead of a blank: it does not count", " aaaaaa/b", " aaaaaa b", 3);
        dueWrapped(e, "one letter ahead of a blank", "a/bbb", "a bbb", 3);
        dueWrapped(e, "no letter ahead of it behind a break", "aaa/ /bb", "aaa   bb", 3);
        dueWrapped(e, "no blank", "aaaaaa", "aaaaaa", 3);
        dueWrapped(e, "no blank behind a break", "aaa/bbbbb", "aaa bbbbb", 3);
        dueWrapped(e, "only a blank ahead of which nothing lies", " aaaaaa", " aaaaaa", 3);
        dueWrapped(e, "the last letter is a blank", "aaa/", "aaa ", 3);
        dueWrapped(e, "the next line stays", "a/b\nc d", "a b\nc d", 1);
        e.nothing("an empty line", 0, () -> Check.room("\na b"), r -> r.wrap(0, 1));
        e.due("a blank that is gone", 0, () -> Edge.gone("aaaaaa", " b").wrap(0, 3));
        e.due("a blank that is gone, no more than width letters ahead", 0, () -> Edge.gone("aaa", " b").wrap(0, 3));

        e.says("`line`: a line");
        e.due("0", 1, () -> Check.room("a b\nc d").wrap(0, 1));
        Room last = Check.room("a b\nc d e");
        e.due("the last one", 2, () -> last.wrap(1, 1));
        e.dueText("only it", "a b\nc\nd\ne", last);

        e.says("`width`: 1 to 100");
        dueWrapped(e, "1", "a/b/c", "a b c", 1);
        dueWrapped(e, "100", "a".repeat(100) + "/b", "a".repeat(100) + " b", 100);
        dueWrapped(e, "100, not more", "a".repeat(98) + " b", "a".repeat(98) + " b", 100);
        dueWrapped(e, "99", "a".repeat(98) + "/b", "a".repeat(98) + " b", 99);

        e.says("Returns how many blanks became line ends");
        e.due("none", 0, () -> new Room().wrap(0, 100));
        e.due("299", 299, () -> Check.room("a ".repeat(299)).wrap(0, 1));
        e.due("one of many", 1, () -> Check.room(" ".repeat(9)).wrap(0, 6));
    }

    private static void promise12Refused(Edge e) {
        e.says("if there is no such line");
        e.refused("-1", Edge.INDEX, r -> r.wrap(-1, 1));
        e.refused("8 of 8", Edge.INDEX, r -> r.wrap(8, 1));
        e.refused("far above", Edge.INDEX, r -> r.wrap(Integer.MAX_VALUE, 1));
        e.refused("far below", Edge.INDEX, r -> r.wrap(Integer.MIN_VALUE, 1));
        e.refused("8 of 8, width 0", Edge.INDEX, r -> r.wrap(8, 0));
        e.refused("with 150 acts", Edge.INDEX, UndoTest::full, r -> r.wrap(2, 1));

        e.says("if width is out of range");
        e.refused("0", Edge.ARGUMENT, r -> r.wrap(0, 0));
        e.refused("101", Edge.ARGUMENT, r -> r.wrap(0, 101));
        e.refused("far above", Edge.ARGUMENT, r -> r.wrap(7, Integer.MAX_VALUE));
        e.refused("far below", Edge.ARGUMENT, r -> r.wrap(7, Integer.MIN_VALUE));
        e.refused("with 150 acts", Edge.ARGUMENT, UndoTest::full, r -> r.wrap(0, 0));

        e.says("if it is refused");
        e.refused("301 lines", Edge.STATE, () -> Check.room("a b c" + "\n".repeat(298)), r -> r.wrap(0, 1));
        e.due("300 lines", 2, () -> Check.room("a b c" + "\n".repeat(297)).wrap(0, 1));
        e.due("300 lines, a width that breaks once", 1, () -> Check.room("a b c" + "\n".repeat(298)).wrap(0, 3));
        e.refused("the act 151", Edge.STATE, EdgeLineTest::blanksAndActs, r -> r.wrap(0, 1));
        e.due("not because a call ahead of it was", 1, () -> {
            Room r = refused();
            r.joinLines(298, 299);
            Check.outcome(r::paste);
            return r.wrap(0, 1);
        });
        e.due("nothing is no act", 0, () -> blanksAndActs().wrap(1, 1));
    }

    /** 150 acts, two blanks in the line 0, and the letter a behind it. */
    static Room blanksAndActs() {
        Room x = Check.room("a b c\n");
        Check.tape(x, "a");
        for (int act = 1; act < 150; act++) {
            x.replace(0, 1);
        }
        return x;
    }

    private static void promise13(Edge e) {
        e.says("each line end between two of them becomes, together with all blanks and tabs right behind it, one blank");
        Room x = Check.room("a\nb\n c\n\t \td\n\n  \ne ");
        x.joinLines(0, 6);
        e.dueText("none, one, three, an empty line, blanks alone", "a b c d   e ", x);
        Room y = Check.room(" a \n b\nc");
        y.joinLines(0, 1);
        e.dueText("blanks ahead of it stay, and the line end behind the range", " a  b\nc", y);
        Room z = Check.room("a\n  ");
        z.joinLines(0, 1);
        e.dueText("all up to the end of the text", "a ", z);
        Room gone = Edge.gone("a\n ", "  ");
        gone.joinLines(0, 1);
        e.dueText("not blanks that are gone", "a ", gone);
        e.nothing("one line", 3, () -> Check.room("a\n b\nc"), r -> r.joinLines(1, 1));
        e.nothing("an empty text", 1, Room::new, r -> r.joinLines(0, 0));

        e.says("`from`: the first line");
        e.due("0", 1, () -> Check.room("a\nb").joinLines(0, 1));
        e.due("the last one", 2, () -> Check.room("a\nb").joinLines(1, 1));
        Room mid = Check.room("a\nb\nc");
        mid.joinLines(1, 2);
        e.dueText("the line end ahead of it stays", "a\nb c", mid);

        e.says("`to`: the last line");
        e.due("0", 2, () -> Check.room("a\nb").joinLines(0, 0));
        e.due("the line 299", 1, () -> Edge.lines(300).joinLines(0, 299));

        e.says("Returns the number of lines of the text");
        e.due("two of three joined", 2, () -> Check.room("a\nb\nc").joinLines(1, 2));
        e.due("none joined", 300, () -> Edge.lines(300).joinLines(299, 299));
    }

    private static void promise13Refused(Edge e) {
        e.says("if there is no such line, of either");
        e.refused("from -1", Edge.INDEX, r -> r.joinLines(-1, 0));
        e.refused("to 8 of 8", Edge.INDEX, r -> r.joinLines(0, 8));
        e.refused("both 8", Edge.INDEX, r -> r.joinLines(8, 8));
        e.refused("from far above, greater than to", Edge.INDEX, r -> r.joinLines(Integer.MAX_VALUE, 0));
        e.refused("to far below, less than from", Edge.INDEX, r -> r.joinLines(0, Integer.MIN_VALUE));
        e.refused("with 150 acts", Edge.INDEX, UndoTest::full, r -> r.joinLines(0, 2));

        e.says("if from is greater than to");
        e.refused("by one", Edge.ARGUMENT, r -> r.joinLines(1, 0));
        e.refused("the last one", Edge.ARGUMENT, r -> r.joinLines(7, 0));
        e.refused("with 150 acts", Edge.ARGUMENT, UndoTest::full, r -> r.joinLines(1, 0));

        e.says("if it is refused");
        e.refused("the act 151", Edge.STATE, UndoTest::full, r -> r.joinLines(0, 1));
        e.due("not because a call ahead of it was", 299, () -> refused().joinLines(298, 299));
        e.due("one line is no act", 2, () -> UndoTest.full().joinLines(1, 1));
    }

    /** A room with a pattern, and with other letters on the tape. */
    private static Room search(Room x, String pattern, boolean isWords, String tape) {
        Check.tape(x, pattern);
        x.setPattern(isWords);
        Check.tape(x, tape);
        return x;
    }

    private static Room at(Room x, int... places) {
        Check.cursors(x, places);
        return x;
    }

    private static void promise14(Edge e) {
        e.says("Replaces the next find that is not ahead of the place of the cursor 0 by the letters of the tape");
        Room x = at(search(Check.room("ab ab ab"), "ab", false, "-"), 3);
        x.replaceNext();
        e.dueText("the one at the cursor", "ab - ab", x);
        Room y = at(search(Check.room("ab ab ab"), "ab", false, "-"), 1, 4);
        y.replaceNext();
        e.dueText("not one that is ahead of the cursor 0; the other cursor does not count", "ab - ab", y);
        Room round = at(search(Check.room("ab ab ab"), "ab", false, "-"), 7);
        round.replaceNext();
        e.dueText("none behind it: the first one of the text", "- ab ab", round);
        Room end = at(search(Check.room("ab"), "ab", false, ""), 2);
        end.replaceNext();
        e.dueText("at the end, by an empty tape", "", end);

        e.says("Behind that act one cursor is left, right behind these letters");
        Room z = at(search(Check.room("ab ab"), "ab", false, "xyz"), 1, 3, 5);
        z.replaceNext();
        e.due("of three", "6", Check.cursors(z));
        Room none = at(search(Check.room("ab ab"), "ab", false, ""), 1, 5);
        none.replaceNext();
        e.due("an empty tape", "3", Check.cursors(none));

        e.says("Without a find nothing happens");
        e.due("a find that is gone", -1, () -> search(Edge.gone("a", "b"), "ab", false, "-").replaceNext());
        e.nothing("no find", -1, () -> at(search(Check.room("ab ab"), "abc", false, "x"), 1, 4), Room::replaceNext);
        e.nothing("an empty text", -1, () -> search(new Room(), "a", false, "x"), Room::replaceNext);

        e.says("Returns the place of the find; NONE if there is none");
        e.due("0", 0, () -> search(Check.room("ab"), "a", false, "-").replaceNext());
        e.due("the last letter of a full text", 2999, () -> at(search(Edge.letters(3000), "a", false, "b"), 2999).replaceNext());
        e.due("none", Cursorroom.NONE, () -> search(Check.room("ab"), "c", false, "-").replaceNext());

        e.says("if there is no pattern, or it is refused");
        e.refused("no pattern", Edge.STATE, () -> at(Check.room("abc"), 1, 2), Room::replaceNext);
        e.refused("3001 letters", Edge.STATE, () -> at(search(Edge.letters(3000), "a", false, "bc"), 1, 9), Room::replaceNext);
        e.due("3000 letters", 1, () -> at(search(Edge.letters(2999), "a", false, "bc"), 1).replaceNext());
        e.refused("301 lines", Edge.STATE, () -> search(Edge.lines(300), "\n", false, "\n\n"), Room::replaceNext);
        e.due("300 lines", 0, () -> search(Edge.lines(299), "\n", false, "\n\n").replaceNext());
        e.refused("the act 151", Edge.STATE, () -> search(UndoTest.full(), "a", false, "b"), Room::replaceNext);
        e.due("without a find it is not refused", -1, () -> search(UndoTest.full(), "c", false, "b").replaceNext());
    }

    private static void promise15(Edge e) {
        e.says("taken from the beginning of the text on, each next one not ahead of the end of the one before");
        Room x = search(Check.room("aaaaa"), "aa", false, "b");
        x.replaceAll();
        e.dueText("finds that overlap", "bba", x);
        Room y = search(Check.room("abab"), "ab", false, "");
        y.replaceAll();
        e.dueText("finds that touch, by an empty tape", "", y);
        Room z = search(Check.room("ab"), "b", false, "ab");
        z.replaceAll();
        e.dueText("what is put is not searched", "aab", z);
        e.due("a find that is gone", 0, () -> search(Edge.gone("a", "b"), "ab", false, "-").replaceAll());
        e.nothing("none", 0, () -> search(Check.room("ab"), "c", false, "x"), Room::replaceAll);
        e.nothing("an empty text", 0, () -> search(new Room(), "c", false, "x"), Room::replaceAll);

        e.says("Returns how many finds were replaced");
        e.due("one", 1, () -> search(Check.room("ab"), "ab", false, "").replaceAll());
        e.due("3000", 3000, () -> search(Edge.letters(3000), "a", false, "b").replaceAll());
        e.due("by the same letters", 2, () -> search(Check.room("aa"), "a", false, "a").replaceAll());
        e.due("none", 0, () -> search(Check.room("ab"), "ba", false, "").replaceAll());

        e.says("if there is no pattern, or it is refused");
        e.refused("no pattern", Edge.STATE, () -> at(Check.room("abc"), 1, 2), Room::replaceAll);
        e.refused("3001 letters", Edge.STATE, () -> search(Check.room("b" + "a".repeat(1500)), "a", false, "cd"), Room::replaceAll);
        e.due("3000 letters", 1500, () -> search(Edge.letters(1500), "a", false, "cd").replaceAll());
        e.refused("301 lines", Edge.STATE, () -> search(Check.room("\na".repeat(150)), "a", false, "\n"), Room::replaceAll);
        e.due("300 lines", 149, () -> search(Check.room("\n" + "\na".repeat(149)), "a", false, "\n").replaceAll());
        e.refused("the act 151", Edge.STATE, () -> search(UndoTest.full(), "a", false, "b"), Room::replaceAll);
        e.due("none is no act", 0, () -> search(UndoTest.full(), "c", false, "b").replaceAll());
    }
}
