/** Promises 36 and 37: steps that are recorded and played. */
final class RecordTest {
    private RecordTest() {
    }

    static void run() {
        promise36();
        promise37();
        groups();
        ways();
        refused();
        folds();
    }

    private static void promise36() {
        Room x = new Room();
        Check.due("P36 nothing", 0, () -> x.record(true));
        Check.tape(x, "ab");
        x.type();
        x.erase(-1);
        x.erase(0);
        x.moveCursors(0, -1);
        x.copy(0, 1);
        x.paste();
        x.setCursor(0);
        x.replace(0, 0);
        x.setMark(0, 0, true);
        x.undo(1);
        Check.dueThrow("P36 a call that throws", IllegalArgumentException.class, () -> x.erase(101));
        Check.dueThrow("P36 a move that throws", IllegalArgumentException.class, () -> x.moveCursors(0, 51));
        Check.due("P36 five steps", 5, () -> x.record(false));
        Check.due("P36 they stay", 5, () -> x.record(false));
        x.type();
        Check.due("P36 not recorded", 5, () -> x.record(true));
        x.type();
        Check.due("P36 anew", 1, () -> x.record(true));
        Check.due("P36 anew while it records", 0, () -> x.record(false));
        x.record(true);
        for (int step = 0; step < 45; step++) {
            x.moveCursors(0, 1);
        }
        Check.due("P36 40 at most", 40, () -> x.record(false));
        Room y = UndoTest.full();
        y.record(true);
        Check.dueThrow("P36 refused", IllegalStateException.class, y::type);
        Check.dueThrow("P36 erase refused", IllegalStateException.class, () -> y.erase(-1));
        y.copy(0, 1);
        Check.dueThrow("P36 paste refused", IllegalStateException.class, y::paste);
        Check.due("P36 none of them", 0, () -> y.record(false));
    }

    private static void promise37() {
        Room x = new Room();
        Check.due("P37 nothing recorded", 0, () -> x.play(20));
        x.record(true);
        Check.tape(x, "ab");
        x.type();
        Check.dueThrow("P37 it records", IllegalStateException.class, () -> x.play(1));
        Check.dueThrow("P37 times first", IllegalArgumentException.class, () -> x.play(0));
        Check.tape(x, "-");
        x.moveCursors(Cursorroom.LETTERS, -1);
        x.type();
        x.record(false);
        Check.tape(x, "zzz");
        Check.due("P37 steps", 3, () -> x.play(1));
        Check.due("P37 with the letters of then", "a-a-bb", Check.text(x));
        Check.due("P37 one act", 3, () -> x.acts(0));
        Check.due("P37 steps, twice", 6, () -> x.play(2));
        Check.due("P37 text", "a-a-a-a-bbbb", Check.text(x));
        Check.due("P37 still one act", 4, () -> x.acts(0));
        Check.due("P37 the tape stays", 3, () -> x.count(5));
        Check.due("P37 nothing is recorded", 3, () -> x.record(false));
        x.undo(1);
        Check.due("P37 undone whole", "a-a-bb", Check.text(x));
        x.redo(1);
        Check.due("P37 done again", "a-a-a-a-bbbb", Check.text(x));
        Check.dueThrow("P37 times 21", IllegalArgumentException.class, () -> x.play(21));
        Check.dueThrow("P37 times -1", IllegalArgumentException.class, () -> x.play(-1));
        Room y = Check.room("abcdef");
        y.copy(0, 2);
        y.record(true);
        y.moveCursors(Cursorroom.LETTERS, 3);
        y.paste();
        y.erase(1);
        y.record(false);
        y.undo(2);
        y.setCursor(0);
        y.copyBlock(0, 1, 4, 1);
        Check.due("P37 paste and erase", 3, () -> y.play(1));
        Check.due("P37 the clip as it is", "abceef", Check.text(y));
        y.undo(1);
        Check.due("P37 right ahead of the first part", "3", Check.cursors(y));
    }

    private static void groups() {
        Room x = Check.room("abc");
        x.record(true);
        x.erase(1);
        x.record(false);
        x.group(true);
        x.play(1);
        x.play(1);
        Check.due("P37 parts of the open group", 3, () -> x.acts(0));
        Check.due("P37 it stays open", 1, () -> Check.bit(x.group(false)));
        x.undo(1);
        Check.due("P37 the group undone", "bc", Check.text(x));
        Room y = Check.room("abc");
        y.record(true);
        y.moveCursors(0, 1);
        y.record(false);
        Check.due("P37 moves are no act", 2, () -> y.play(2));
        Check.due("P37 none kept", 1, () -> y.acts(0));
        Check.due("P37 no group stays", 0, () -> Check.bit(y.group(false)));
    }

    private static void ways() {
        Room x = Check.room("ab cd\nef\n\ngh");
        x.record(true);
        x.moveCursors(Cursorroom.WORDS, 2);
        x.moveCursors(Cursorroom.LINES, 1);
        x.moveCursors(Cursorroom.PARAGRAPHS, 1);
        x.moveCursors(Cursorroom.ENDS, 1);
        x.record(false);
        x.setCursor(0);
        Check.tape(x, "-");
        Check.due("P37 all ways", 4, () -> x.play(1));
        Check.due("P37 where they lead", "12", Check.cursors(x));
        x.setCursor(1);
        x.record(true);
        x.moveCursors(Cursorroom.LINES, 1);
        x.record(false);
        x.play(1);
        Check.due("P37 lines", "9", Check.cursors(x));
    }

    private static void refused() {
        Room x = Check.room("a".repeat(2990));
        x.record(true);
        x.moveCursors(0, 1);
        Check.tape(x, "bcd");
        x.type();
        x.record(false);
        Check.due("P37 up to the refused step", 5, () -> x.play(20));
        Check.due("P37 what was done stays", 2999, () -> x.count(0));
        Check.due("P37 the step ahead of it too", "13", Check.cursors(x));
        Room y = Check.room("\n");
        Check.tape(y, "a");
        y.record(true);
        y.moveCursors(0, -1);
        y.type();
        y.record(false);
        for (int act = 2; act < 149; act++) {
            y.type();
        }
        y.group(true);
        Check.due("P37 the 150th act", 2, () -> y.play(1));
        Check.due("P37 more parts of it", 4, () -> y.play(2));
        y.group(false);
        y.setCursor(5);
        Check.due("P37 the 151st act is refused", 1, () -> y.play(3));
        Check.due("P37 but not the move ahead of it", "4", Check.cursors(y));
        y.group(true);
        Check.due("P37 nor in a group anew", 1, () -> y.play(1));
    }

    private static void folds() {
        Room x = Check.room("a\nb\nc\nd");
        x.record(true);
        x.moveCursors(0, 1);
        x.moveCursors(0, 2);
        x.moveCursors(0, 4);
        x.record(false);
        x.setCursor(0);
        x.fold(0, 1);
        x.fold(2, 3);
        x.play(1);
        Check.due("P37 a step leaves a cursor in a fold", "", Check.hidden(x));
        x.setCursor(0);
        x.record(true);
        x.moveCursors(0, 7);
        x.record(false);
        x.setCursor(0);
        x.fold(0, 1);
        x.play(1);
        Check.due("P37 a step over a fold", "1", Check.hidden(x));
    }
}
