/** Promises 46 to 49: the kept text, and the check of the theorem. */
final class KeptTest {
    private KeptTest() {
    }

    static void run() {
        promise46();
        promise47();
        promise48();
        promise49();
    }

    private static void become(Room x, String text) {
        x.clearTape();
        x.replace(0, x.count(0));
        x.setCursor(0);
        Check.feed(x, text);
        x.type();
    }

    private static int differences(String kept, String text) {
        Room x = Check.room(kept);
        x.keep();
        become(x, text);
        return x.differences();
    }

    private static float share(String kept, String text) {
        Room x = Check.room(kept);
        x.keep();
        become(x, text);
        return x.sameShare();
    }

    /** The beginnings of lines inside a room, to break them. */
    private static int[] begins(Room x) {
        try {
            java.lang.reflect.Field sheet = Cursorroom.class.getDeclaredField("sheet");
            sheet.setAccessible(true);
            java.lang.reflect.Field begins = sheet.getType().getDeclaredField("begins");
            begins.setAccessible(true);
            return (int[]) begins.get(sheet.get(x.inside));
        } catch (ReflectiveOperationException e) {
            throw new IllegalStateException(e);
        }
    }

    private static void promise46() {
        Room x = Check.room("a\nb\n");
        Check.due("P46 lines", 3, x::keep);
        Check.due("P46 the same", 0, x::differences);
        become(x, "a");
        Check.due("P46 kept", 2, x::differences);
        x.undo(150);
        Check.due("P46 not undone", 2, x::differences);
        Check.due("P46 anew", 1, x::keep);
        Check.due("P46 in its place", 0, x::differences);
        Check.due("P46 no act", 3, () -> x.acts(0));
    }

    private static void promise47() {
        Check.due("P47 nothing kept", 3, () -> Check.room("a\nb").differences());
        Check.due("P47 an empty line of it", 1, () -> Check.room("a\n").differences());
        Check.due("P47 one line other", 2, () -> differences("a\nb\nc", "a\nx\nc"));
        Check.due("P47 one put in", 1, () -> differences("a\nc", "a\nb\nc"));
        Check.due("P47 one taken out", 1, () -> differences("a\nb\nc", "a\nc"));
        Check.due("P47 moved", 2, () -> differences("a\nb\nc", "c\na\nb"));
        Check.due("P47 turned", 4, () -> differences("a\nb\nc", "c\nb\na"));
        Check.due("P47 none the same", 5, () -> differences("a\nb\nc", "d\ne"));
        Check.due("P47 more of one", 2, () -> differences("a\na\na", "b\na\na"));
        Check.due("P47 the least", 5, () -> differences("a\nb\nc\na\nb\nb\na", "c\nb\na\nb\na\nc"));
        Check.due("P47 sums that are the same", 2, () -> differences("Aa", "BB"));
        Check.due("P47 a part of a line", 2, () -> differences("abc", "ab"));
        Check.due("P47 blanks count", 2, () -> differences("a ", "a"));
        Room x = Check.room("a\nb\nc\nd");
        x.keep();
        x.differences();
        become(x, "x\ny\nz\nv");
        Check.due("P47 asked again", 8, x::differences);
        become(x, "x\nb\nz\nv\nd\nw");
        Check.due("P47 asked once more", 6, x::differences);
    }

    private static void promise48() {
        Check.due("P48 all", 1f, share("a\nb", "a\nb"));
        Check.due("P48 none", 0f, share("a\nb", "c"));
        Check.due("P48 thirds", 2f / 3f, share("a\nb\nc", "a\nx\nc"));
        Check.due("P48 of the text's lines", 0.25f, share("a", "a\nb\nc\nd"));
        Check.due("P48 not of the kept ones", 1f, share("a\nb\nc\nd", "b"));
        Check.due("P48 nothing kept", 0.5f, Check.room("a\n").sameShare());
    }

    private static void promise49() {
        Room broken = Check.room("a\nb");
        begins(broken)[1] = 3;
        Check.due("P49 a beginning that is not so", 1, broken::errors);
        begins(broken)[1] = 2;
        begins(broken)[0] = 1;
        Check.due("P49 another one", 1, broken::errors);
        Room x = new Room();
        Check.due("P49 new", 0, x::errors);
        Check.tape(x, "a\nb\n");
        x.type();
        x.type();
        x.undo(1);
        Check.tape(x, "c\n");
        x.type();
        x.setCursor(0);
        x.setMark(0, 3, true);
        x.fold(1, 2);
        x.group(true);
        Check.due("P49 none", 0, x::errors);
        Check.due("P49 text", "a\nb\nc\n", Check.text(x));
        Check.due("P49 cursors", "0", Check.cursors(x));
        Check.due("P49 marks", "0:3", Check.marks(x));
        Check.due("P49 hidden", "2", Check.hidden(x));
        Check.due("P49 acts", 3, () -> x.acts(0));
        Check.due("P49 to undo", 2, () -> x.acts(1));
        Check.due("P49 group closed", 0, () -> Check.bit(x.group(false)));
        x.undo(1);
        Check.due("P49 none behind an undone act", 0, x::errors);
        Check.due("P49 to do again", 1, () -> x.acts(2));
        x.redo(1);
        Check.due("P49 the act chosen stays", "a\nb\nc\n", Check.text(x));
    }
}
