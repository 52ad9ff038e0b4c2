/** Each sentence of the promises 46 to 49, at its edges: the kept text, and the check of the theorem. */
final class EdgeKeptTest {
    private EdgeKeptTest() {
    }

    static void run(Document document) {
        promise46(new Edge(document, "P46"));
        promise47(new Edge(document, "P47"));
        promise48(new Edge(document, "P48"));
        promise49(new Edge(document, "P49"));
    }

    /** A room that kept one text and has another one. */
    private static Room kept(String kept, String text) {
        Room x = Check.room(kept);
        x.keep();
        x.replace(0, kept.length());
        String last = "";
        for (int at = 0; at < text.length(); at += 200) {
            String next = text.substring(at, Math.min(text.length(), at + 200));
            if (!next.equals(last)) {
                Check.tape(x, next);
            }
            last = next;
            x.type();
        }
        return x;
    }

    private static void promise46(Edge e) {
        e.says("Keeps the text for comparison, in place of one that was kept before");
        Room x = kept("a\nb", "c");
        e.due("kept", 3, x::differences);
        x.keep();
        e.due("another one in its place", 0, x::differences);
        Room full = Check.room("123456789\n".repeat(299) + "1234567890");
        full.keep();
        e.due("a full text", 0, full::differences);
        e.due("undoing leaves it", 301, () -> {
            full.undo(150);
            return full.differences();
        });
        Room empty = kept("a\nb", "");
        empty.keep();
        e.due("an empty text in place of a longer one", 0, empty::differences);

        e.says("(At first an empty text is kept.)");
        e.due("an empty text is as it was", 0, () -> new Room().differences());
        e.due("a letter is not", 2, () -> Check.room("a").differences());
        e.due("its one empty line is there", 1, () -> Check.room("a\n").differences());

        e.says("Returns the number of its lines");
        e.due("an empty text", 1, () -> new Room().keep());
        e.due("a line end at the end", 2, () -> Check.room("a\n").keep());
        e.due("300", 300, () -> Edge.lines(300).keep());
    }

    private static int differences(String kept, String text) {
        return kept(kept, text).differences();
    }

    private static void promise47(Edge e) {
        e.says("Compares the lines with those of the kept text: lines are taken out of the kept text and others put in");
        e.nothing("it changes nothing", 2, () -> kept("a\nb", "a\nc"), Room::differences);
        e.due("a line is another one by its last letter", 2, () -> differences("ab", "ac"));
        e.due("by one letter more", 2, () -> differences("ab", "abc"));
        e.due("by a blank", 2, () -> differences("a", "a "));
        e.due("by a tab in place of a blank", 2, () -> differences(" ", "\t"));
        e.due("letters that are gone do not count", 0, () -> {
            Room r = Check.room("ab");
            r.keep();
            Check.tape(r, "\nc");
            r.replace(2, 2);
            r.undo(1);
            return r.differences();
        });
        e.due("lines of the same sum", 2, () -> differences("Aa", "BB"));
        e.due("the last line, though no line end follows", 0, () -> differences("a\nb", "a\nb"));

        e.says("Returns the least number of lines that must be taken out and put in, in all");
        e.due("none", 0, () -> differences("a\nb", "a\nb"));
        e.due("both empty", 0, () -> differences("", ""));
        e.due("one taken out", 1, () -> differences("a\nb", "b"));
        e.due("one put in", 1, () -> differences("a", "b\na"));
        e.due("one of each", 2, () -> differences("a", "b"));
        e.due("from an empty text", 3, () -> differences("", "a\nb"));
        e.due("to an empty text", 3, () -> differences("a\nb", ""));
        e.due("in another order: the least", 2, () -> differences("a\nb\nc", "b\nc\na"));
        e.due("the longest row of lines stays, not the first one", 4, () -> differences("x\na\nb\nc", "a\nb\nc\nx\ny\nz"));
        e.due("each line is used once", 1, () -> differences("a\na", "a\na\na"));
        e.due("all of 300 lines", 600, () -> kept("\n".repeat(299), "a\n".repeat(299) + "a").differences());
        e.due("one of 300 lines", 2, () -> {
            Room r = Edge.lines(300);
            r.keep();
            Check.tape(r, "a");
            r.replace(299, 299);
            return r.differences();
        });
    }

    private static float share(String kept, String text) {
        return kept(kept, text).sameShare();
    }

    private static void promise48(Edge e) {
        e.says("Returns how much of the lines stays as it was");
        e.due("all", 1f, share("a\nb", "a\nb"));
        e.due("none", 0f, share("a\nb", "c\nd"));

        e.says("Returns the number of lines that are neither taken out nor put in by the least number of differences");
        e.due("thirds, as a float", 1f / 3f, share("a\nb\nc", "a\nx\ny"));
        e.due("of the lines of the text, which are more", 0.25f, share("a", "b\na\nc\nd"));
        e.due("of the lines of the text, which are fewer", 1f, share("b\na\nc\nd", "a"));
        e.due("an empty text, at first", 1f, new Room().sameShare());
        e.due("nothing kept, one of two lines is empty", 0.5f, Check.room("a\n").sameShare());
        e.due("an empty text, and no empty line kept", 0f, share("a", ""));
        Room x = Edge.lines(300);
        x.keep();
        e.due("300 of 300", 1f, x.sameShare());
        Check.tape(x, "a");
        x.replace(150, 150);
        e.due("299 of 300", 299f / 300f, x.sameShare());
        e.nothing("it changes nothing", 500, () -> kept("a\nb", "a\nc"), r -> (long) (r.sameShare() * 1000f));
    }

    private static void promise49(Edge e) {
        e.says("(all stays as it is by that, but for an open group, which is closed)");
        e.nothing("nothing done yet", 0, Room::new, Room::errors);
        e.nothing("one act", 0, () -> Check.room("a\nb"), Room::errors);
        e.nothing("all undone", 0, () -> {
            Room r = Check.room("a\nb");
            r.undo(1);
            return r;
        }, Room::errors);
        e.nothing("cursors, marks, hidden lines, continuations", 0, EdgeKeptTest::closed, Room::errors);
        e.nothing("150 acts", 0, UndoTest::full, Room::errors);
        e.nothing("eight cursors", 0, () -> {
            Room r = Check.room("abcdefgh");
            Check.cursors(r, 0, 1, 2, 3, 4, 5, 6, 8);
            return r;
        }, Room::errors);
        Room open = Edge.busy();
        Room closed = Edge.busy();
        closed.group(false);
        e.due("an open group", 0, open::errors);
        e.due("an open group is closed", Probe.of(closed), Probe.of(open));
        Room begun = new Room();
        begun.group(true);
        begun.errors();
        e.due("one without an act, too", 0, () -> Check.bit(begun.group(false)));

        e.says("Returns how many of these things are not so; always 0");
        e.due("a new room", 0, () -> new Room().errors());
        e.due("a full text", 0, () -> Edge.letters(3000).errors());
        e.due("300 lines", 0, () -> Edge.lines(300).errors());
        e.due("150 acts", 0, () -> UndoTest.full().errors());
        Room twice = Edge.busy();
        e.due("asked twice", 0, () -> twice.errors() + twice.errors());
    }

    private static Room closed() {
        Room x = Edge.busy();
        x.group(false);
        x.record(false);
        return x;
    }
}
