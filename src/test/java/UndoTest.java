/** Promises 16 to 20: the tree of acts. */
final class UndoTest {
    private UndoTest() {
    }

    static void run() {
        promise16();
        promise17();
        promise18();
        promise19();
        promise20();
        states();
        between();
        rightAhead();
        fullStates();
        bound();
    }

    /** A room with 150 acts and 150 letters in two lines. */
    static Room full() {
        Room x = full149();
        x.type();
        return x;
    }

    /** A room with 149 acts and 149 letters in two lines. */
    static Room full149() {
        Room x = Check.room("\n");
        x.setCursor(1);
        x.feed('a');
        for (int act = 1; act < 149; act++) {
            x.type();
        }
        return x;
    }

    private static void put(Room x, String letters) {
        Check.tape(x, letters);
        x.type();
    }

    private static void promise16() {
        Room x = new Room();
        Check.due("P16 nothing", 0, () -> x.undo(1));
        put(x, "a");
        put(x, "b");
        put(x, "c");
        Check.due("P16 one", 1, () -> x.undo(1));
        Check.due("P16 text", "ab", Check.text(x));
        Check.due("P16 fewer", 2, () -> x.undo(150));
        Check.due("P16 empty", "", Check.text(x));
        Check.due("P16 cursor", "0", Check.cursors(x));
        Check.dueThrow("P16 0", IllegalArgumentException.class, () -> x.undo(0));
        Check.dueThrow("P16 -1", IllegalArgumentException.class, () -> x.undo(-1));
        Check.dueThrow("P16 151", IllegalArgumentException.class, () -> x.undo(151));
        Check.due("P16 tape stays", 1, () -> x.count(5));
    }

    private static void promise17() {
        Room x = new Room();
        Check.due("P17 nothing", 0, () -> x.redo(1));
        put(x, "a");
        put(x, "b");
        put(x, "c");
        Check.due("P17 nothing to do again", 0, () -> x.redo(150));
        x.undo(3);
        Check.due("P17 two", 2, () -> x.redo(2));
        Check.due("P17 text", "ab", Check.text(x));
        Check.due("P17 fewer", 1, () -> x.redo(150));
        Check.due("P17 text then", "abc", Check.text(x));
        Check.due("P17 cursor", "3", Check.cursors(x));
        Check.dueThrow("P17 0", IllegalArgumentException.class, () -> x.redo(0));
        Check.dueThrow("P17 151", IllegalArgumentException.class, () -> x.redo(151));
        x.undo(2);
        put(x, "d");
        Check.due("P17 the one done last", 0, () -> x.redo(1));
        x.undo(1);
        x.redo(1);
        Check.due("P17 the one undone last", "ad", Check.text(x));
    }

    private static void promise18() {
        Room x = new Room();
        Check.dueThrow("P18 none", java.util.NoSuchElementException.class, () -> x.branch(0));
        put(x, "a");
        put(x, "z");
        x.undo(2);
        put(x, "b");
        x.undo(1);
        put(x, "c");
        x.undo(1);
        Check.dueThrow("P18 above", java.util.NoSuchElementException.class, () -> x.branch(3));
        Check.dueThrow("P18 below", java.util.NoSuchElementException.class, () -> x.branch(-1));
        Check.due("P18 redo() takes the last one", 1, () -> x.acts(2));
        Check.due("P18 choose", 3, () -> x.branch(0));
        Check.due("P18 its row", 2, () -> x.acts(2));
        x.redo(1);
        Check.due("P18 text", "a", Check.text(x));
        Check.due("P18 its continuation", 1, () -> x.branch(0));
        x.undo(1);
        x.redo(1);
        Check.due("P18 undone last", "a", Check.text(x));
        x.undo(1);
        x.branch(2);
        x.branch(1);
        x.redo(5);
        Check.due("P18 chosen last", "b", Check.text(x));
        x.undo(1);
        put(x, "d");
        x.undo(1);
        Check.due("P18 four", 4, () -> x.acts(3));
        x.redo(1);
        Check.due("P18 done last", "d", Check.text(x));
    }

    private static void promise19() {
        Room x = new Room();
        Check.due("P19 none open", 0, () -> Check.bit(x.group(true)));
        put(x, "a");
        Check.due("P19 kept with the first", 1, () -> x.acts(0));
        put(x, "b");
        x.setMark(0, 1, false);
        put(x, "c");
        Check.due("P19 one act", 1, () -> x.acts(1));
        Check.due("P19 was open", 1, () -> Check.bit(x.group(true)));
        put(x, "d");
        Check.due("P19 one that is open is closed first", 2, () -> x.acts(0));
        Check.due("P19 close", 1, () -> Check.bit(x.group(false)));
        Check.due("P19 closed", 0, () -> Check.bit(x.group(false)));
        put(x, "e");
        Check.due("P19 behind", 3, () -> x.acts(0));
        x.undo(2);
        Check.due("P19 undone", "abc", Check.text(x));
        x.undo(1);
        Check.due("P19 undone whole", "", Check.text(x));
        Check.due("P19 mark", "", Check.marks(x));
        x.redo(1);
        Check.due("P19 done again whole", "abc", Check.text(x));
        Check.due("P19 mark again", "0:1", Check.marks(x));
        closers();
        Room z = Check.room("abc");
        z.group(true);
        z.setCursor(2);
        z.type();
        Check.tape(z, "-");
        z.type();
        z.setCursor(0);
        z.type();
        z.undo(1);
        Check.due("P19 ahead of the first part", "2", Check.cursors(z));
    }

    private static void closers() {
        Room y = new Room();
        y.group(true);
        put(y, "a");
        Check.dueThrow("P19 undo(0)", IllegalArgumentException.class, () -> y.undo(0));
        Check.dueThrow("P19 redo(151)", IllegalArgumentException.class, () -> y.redo(151));
        Check.dueThrow("P19 branch(0)", java.util.NoSuchElementException.class, () -> y.branch(0));
        Check.due("P19 they leave it open", 1, () -> Check.bit(y.group(true)));
        y.redo(1);
        Check.due("P19 redo closes", 0, () -> Check.bit(y.group(true)));
        put(y, "b");
        y.undo(1);
        Check.due("P19 undo closes", 0, () -> Check.bit(y.group(true)));
        y.branch(0);
        Check.due("P19 branch closes", 0, () -> Check.bit(y.group(true)));
        y.errors();
        Check.due("P49 errors closes", 0, () -> Check.bit(y.group(false)));
        Check.due("P19 text", "a", Check.text(y));
    }

    private static void promise20() {
        Room x = new Room();
        put(x, "a");
        put(x, "b");
        put(x, "c");
        x.undo(2);
        Check.due("P20 kept", 3, () -> x.acts(0));
        Check.due("P20 to undo", 1, () -> x.acts(1));
        Check.due("P20 to do again", 2, () -> x.acts(2));
        Check.due("P20 continuations", 1, () -> x.acts(3));
        put(x, "d");
        x.undo(1);
        Check.due("P20 kept then", 4, () -> x.acts(0));
        Check.due("P20 to do again then", 1, () -> x.acts(2));
        Check.due("P20 continuations then", 2, () -> x.acts(3));
        Check.dueThrow("P20 below", IllegalArgumentException.class, () -> x.acts(-1));
        Check.dueThrow("P20 above", IllegalArgumentException.class, () -> x.acts(4));
    }

    /** Terms 4: what undoing and doing again bring back. */
    private static void states() {
        Room x = Check.room("a\nb\nc\nd");
        x.setCursor(7);
        x.setMark(3, 2, true);
        x.fold(0, 1);
        Check.tape(x, "!");
        x.type();
        x.setCursor(8);
        x.addCursor(0);
        x.setMark(3, 5, false);
        x.unfold(1);
        x.fold(1, 2);
        x.undo(1);
        Check.due("T4 text", "a\nb\nc\nd", Check.text(x));
        Check.due("T4 cursors", "7", Check.cursors(x));
        Check.due("T4 marks", "3:2", Check.marks(x));
        Check.due("T4 hidden", "1", Check.hidden(x));
        x.setCursor(0);
        x.dropMark(3);
        x.redo(1);
        Check.due("T4 text again", "a\nb\nc\nd!", Check.text(x));
        Check.due("T4 cursors again", "0 8", Check.cursors(x));
        Check.due("T4 marks again", "3:5", Check.marks(x));
        Check.due("T4 hidden again", "2", Check.hidden(x));
        x.replace(5, 5);
        Check.due("T4 the lean of a mark", "3:6", Check.marks(x));
        x.undo(2);
        Check.due("T4 as when it was done first", "3:2", Check.marks(x));
        x.replace(2, 2);
        Check.due("T4 the lean before", "3:2", Check.marks(x));
    }

    private static String all(Room x) {
        return Check.text(x).replace("\n", "/") + " | " + Check.cursors(x) + " | " + Check.marks(x) + " | "
                + Check.hidden(x);
    }

    /** Terms 4: several acts undone by one call come back one by one as they were right ahead of the next one. */
    private static void between() {
        Room x = Check.room("1\n2\n3");
        Check.tape(x, "a");
        x.type();
        x.fold(1, 2);
        Check.cursors(x, 0, 3);
        x.setMark(4, 2, true);
        x.type();
        x.setCursor(0);
        x.setMark(4, 6, false);
        x.setMark(5, 0, false);
        x.unfold(2);
        x.fold(0, 1);
        x.type();
        x.dropMark(4);
        String last = all(x);
        Check.due("T4 many", 3, () -> x.undo(3));
        Check.due("T4 the first", "1/2/3 | 0 |  | ", all(x));
        x.redo(1);
        Check.due("T4 ahead of the second", "a1/2/3 | 0 3 | 4:2 | 2", all(x));
        x.redo(1);
        Check.due("T4 ahead of the third", "aa1/a2/3 | 0 | 4:6 5:0 | 1", all(x));
        x.redo(1);
        Check.due("T4 the last", last, all(x));
        x.undo(1);
        x.setCursor(7);
        x.undo(1);
        x.dropMark(4);
        x.undo(1);
        x.redo(1);
        Check.due("T4 the first when it was undone", "a1/2/3 | 0 3 |  | 2", all(x));
        x.redo(1);
        Check.due("T4 the second when it was undone", "aa1/a2/3 | 7 | 4:6 5:0 | 1", all(x));
        x.redo(1);
        Check.due("T4 the last again", last, all(x));
        x.undo(2);
        Check.due("T4 the second as it was ahead first", "a1/2/3 | 0 3 | 4:2 | 2", all(x));
    }

    /** Terms 4: a redo that reaches nothing, or an undo, leaves all as it is; errors() as well. */
    private static void rightAhead() {
        Room x = Check.room("1\n2\n3");
        Check.tape(x, "a");
        x.type();
        x.undo(2);
        Check.due("T4 nothing left", 0, () -> x.undo(1));
        x.setMark(2, 0, false);
        Check.due("T4 nothing undone", 0, () -> x.undo(1));
        Check.due("T4 so it stays", " | 0 | 2:0 | ", all(x));
        x.redo(2);
        Check.due("T4 as it was", "a1/2/3 | 1 |  | ", all(x));
        x.fold(1, 2);
        Check.cursors(x, 4, 2);
        x.setMark(0, 3, true);
        Check.due("T4 nothing to do again", 0, () -> x.redo(1));
        Check.due("P49 none", 0, x::errors);
        Check.due("T4 all stays", "a1/2/3 | 2 4 | 0:3 | 2", all(x));
        x.undo(1);
        x.setCursor(1);
        Check.due("P49 none in between", 0, x::errors);
        Check.due("P49 all stays in between", "1/2/3 | 1 |  | ", all(x));
        x.redo(1);
        Check.due("P49 what is kept stays", "a1/2/3 | 2 4 | 0:3 | 2", all(x));
    }

    private static final int[] FOLDED = {9, 61, 63, 65, 127, 129, 192, 194, 255, 257, 297, 299};

    /** All of a large state in few calls: the lines that are hidden are those of FOLDED, or fewer. */
    private static String allFull(Room x) {
        StringBuilder shown = new StringBuilder();
        for (int line : FOLDED) {
            if (line >= x.count(1) || !x.isHidden(line)) {
                shown.append(' ').append(line);
            }
        }
        return x.count(0) + " " + x.hash() + " | " + Check.cursors(x) + " | " + Check.marks(x) + " | "
                + x.count(4) + " hidden, not" + shown;
    }

    /** Terms 4 at the bounds: all letters, 300 lines, 8 cursors, 16 marks. */
    private static void fullStates() {
        Room x = new Room();
        Check.tape(x, "\n\n\n\n\n\n\n\n\n\n\n\n\n");
        for (int time = 0; time < 23; time++) {
            x.type();
        }
        StringBuilder codes = new StringBuilder("\t");
        for (char code = 32; code <= 126; code++) {
            codes.append(code);
        }
        x.setCursor(7);
        Check.tape(x, codes.append(codes).toString());
        for (int time = 0; time < 14; time++) {
            x.type();
        }
        Check.tape(x, "~~~~~~~~~~~~~");
        x.type();
        for (int line : FOLDED) {
            x.fold(line - 1, line);
        }
        Check.cursors(x, 0, 1, 1000, 2000, 2001, 2750, 2800, 2994);
        for (int mark = 0; mark < 16; mark++) {
            x.setMark(mark, 3000 - mark * 200, mark % 3 == 0);
        }
        Check.due("T4 letters", 3000, () -> x.count(0));
        Check.due("T4 lines", 300, () -> x.count(1));
        String full = allFull(x);
        Check.due("T4 hidden lines", true, full.endsWith("| 12 hidden, not"));
        x.undo(150);
        Check.due("T4 nothing", " | 0 |  | ", all(x));
        x.redo(150);
        Check.due("T4 all of it", full, allFull(x));
        Check.tape(x, "x");
        x.replace(100, 101);
        String then = allFull(x);
        x.undo(1);
        Check.due("T4 all of it ahead", full, allFull(x));
        x.redo(1);
        Check.due("T4 all of it behind", then, allFull(x));
        Check.due("P49 full", 0, x::errors);
    }

    private static void bound() {
        Room x = full();
        Check.due("T4 150 acts", 150, () -> x.acts(0));
        Check.dueThrow("T4 type refused", IllegalStateException.class, x::type);
        Check.dueThrow("T4 erase refused", IllegalStateException.class, () -> x.erase(-1));
        Check.dueThrow("T4 replace refused", IllegalStateException.class, () -> x.replace(0, 1));
        Check.dueThrow("T4 indent refused", IllegalStateException.class, () -> x.indent(0, 1, 1));
        x.copy(0, 1);
        Check.dueThrow("T4 paste refused", IllegalStateException.class, x::paste);
        x.setPattern(false);
        Check.dueThrow("T4 replaceNext refused", IllegalStateException.class, x::replaceNext);
        Check.dueThrow("T4 replaceAll refused", IllegalStateException.class, x::replaceAll);
        Check.due("T4 nothing is not refused", 0, () -> x.erase(1));
        x.group(true);
        Check.dueThrow("T4 a group's first one refused", IllegalStateException.class, x::type);
        Check.due("T4 all back", 150, () -> x.undo(150));
        Check.dueThrow("T4 refused at the beginning", IllegalStateException.class, x::type);
        Check.due("T4 all again", 150, () -> x.redo(150));
        Check.due("T4 text", 150, () -> x.count(0));
        Check.due("T4 errors", 0, x::errors);
        Room y = Check.room("\n");
        Check.tape(y, "a");
        for (int act = 1; act < 149; act++) {
            y.type();
        }
        y.group(true);
        y.type();
        Check.due("T4 the group is the 150th", 150, () -> y.acts(0));
        Check.due("T4 parts are not kept anew", 151, y::type);
    }
}
