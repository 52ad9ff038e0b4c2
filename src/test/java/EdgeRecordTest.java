/** Each sentence of the promises 36 and 37, at its edges: steps that are recorded and played. */
final class EdgeRecordTest {
    private EdgeRecordTest() {
    }

    static void run(Document document) {
        promise36(new Edge(document, "P36"));
        promise36Steps(new Edge(document, "P36"));
        promise37(new Edge(document, "P37"));
        promise37Refused(new Edge(document, "P37"));
        promise37Bounds(new Edge(document, "P37"));
    }

    private static void put(Room x, String letters) {
        Check.tape(x, letters);
        x.type();
    }

    /** A room that has recorded to type these letters. */
    private static Room typed(String letters) {
        Room x = new Room();
        x.record(true);
        put(x, letters);
        x.record(false);
        return x;
    }

    private static void promise36(Edge e) {
        e.says("Begins to record, in place of what was recorded, or ends it");
        Room x = typed("ab");
        x.record(true);
        x.erase(-1);
        x.record(false);
        x.play(1);
        e.dueText("what was recorded before is gone", "", x);
        Room y = new Room();
        y.record(true);
        y.erase(1);
        y.record(true);
        e.due("begun anew while it records: nothing is recorded yet", 0, () -> y.record(false));
        Room z = typed("ab");
        z.record(false);
        e.due("ended twice: the steps stay", 1, () -> z.play(1));
        Room none = typed("ab");
        none.record(true);
        none.record(false);
        e.due("begun and ended: nothing is left", 0, () -> none.play(1));

        e.says("`is`: whether it records then");
        Room at = new Room();
        at.erase(1);
        e.due("at first it does not", 0, () -> at.record(false));
        at.erase(1);
        e.due("nor behind that", 0, () -> at.record(true));
        at.erase(1);
        e.due("then it does", 1, () -> at.record(false));
        at.erase(1);
        e.due("then not any more", 1, () -> at.record(false));

        e.says("Returns how many steps were recorded ahead of this call");
        e.due("none at first", 0, () -> new Room().record(true));
        e.due("one", 1, () -> typed("a").record(false));
        e.due("one, and begun anew", 1, () -> typed("a").record(true));
    }

    /** A room with a full text that records, a row of two letters as clip and a letter on the tape. */
    private static Room fullAndRecording() {
        Room x = Edge.letters(3000);
        x.copy(0, 2);
        Check.tape(x, "b");
        x.record(true);
        return x;
    }

    private static void promise36Steps(Edge e) {
        e.says("each call of type(), erase(), moveCursors() and paste() that does not throw an exception is recorded as a step");
        Room x = Check.room("abc");
        x.record(true);
        x.type();
        x.erase(0);
        x.moveCursors(Cursorroom.LETTERS, 0);
        x.paste();
        e.due("calls that do nothing", 4, () -> x.record(false));
        Room y = fullAndRecording();
        Check.outcome(y::type);
        Check.outcome(y::paste);
        Check.outcome(() -> y.erase(101));
        Check.outcome(() -> y.moveCursors(0, 51));
        e.due("calls that throw are not", 0, () -> y.record(false));
        e.refused("type() that throws", Edge.STATE, EdgeRecordTest::fullAndRecording, Room::type);
        e.refused("paste() that throws", Edge.STATE, EdgeRecordTest::fullAndRecording, Room::paste);
        e.refused("erase() that throws", Edge.ARGUMENT, EdgeRecordTest::fullAndRecording, r -> r.erase(-101));
        e.refused("moveCursors() that throws", Edge.ARGUMENT, EdgeRecordTest::fullAndRecording, r -> r.moveCursors(0, -51));
        Room full = UndoTest.full();
        full.record(true);
        Check.outcome(() -> full.erase(-1));
        e.due("erase() that is refused is not", 0, () -> full.record(false));
        Room others = Check.room("a b\nc");
        Check.tape(others, "-");
        others.record(true);
        others.replace(0, 1);
        others.cut(0, 1);
        others.indent(0, 1, 1);
        others.wrap(0, 1);
        others.joinLines(0, 1);
        others.setPattern(false);
        others.replaceNext();
        others.replaceAll();
        others.undo(1);
        others.redo(1);
        others.setCursor(0);
        others.addCursor(1);
        others.setMark(0, 0, true);
        others.copy(0, 0);
        others.group(true);
        others.fold(0, 1);
        e.due("other calls are not", 0, () -> others.record(false));

        e.says("type() with the letters of the tape as they are then; at most 40 steps, later ones are not");
        Room tape = new Room();
        tape.record(true);
        put(tape, "a".repeat(200));
        put(tape, "");
        put(tape, "b");
        tape.record(false);
        Check.tape(tape, "c");
        tape.play(1);
        e.dueText("a full tape, an empty one, one letter", "a".repeat(200) + "b" + "a".repeat(200) + "b", tape);
        Room forty = new Room();
        forty.record(true);
        for (int step = 1; step <= 40; step++) {
            put(forty, "" + (char) ('0' + step));
        }
        put(forty, "z");
        forty.erase(-1);
        forty.moveCursors(Cursorroom.LETTERS, -1);
        forty.paste();
        e.due("40", 40, () -> forty.record(false));
        forty.setCursor(0);
        forty.replace(0, 40);
        forty.clearTape();
        forty.replace(0, 1);
        e.due("40 are played", 40, () -> forty.play(1));
        e.dueText("the first 40", "123456789:;<=>?@ABCDEFGHIJKLMNOPQRSTUVWX", forty);
        Room less = new Room();
        less.record(true);
        for (int step = 1; step <= 39; step++) {
            less.erase(1);
        }
        e.due("39", 39, () -> less.record(false));
    }

    private static void promise37(Edge e) {
        e.says("Plays the recorded steps, one behind the other, so many times; what they do to the text is one act, or parts");
        Room x = typed("ab");
        x.play(20);
        e.dueText("20 times", "ab".repeat(21), x);
        e.due("one act", 2, () -> x.acts(0));
        x.undo(1);
        e.dueText("undone whole", "ab", x);
        Room group = typed("ab");
        group.group(true);
        put(group, "c");
        group.play(2);
        group.play(1);
        e.due("parts of the open group", 2, () -> group.acts(0));
        e.due("which stays open", 1, () -> Check.bit(group.group(false)));
        Room alone = typed("ab");
        alone.play(1);
        e.due("no group stays open", 0, () -> Check.bit(alone.group(false)));
        put(alone, "c");
        e.due("what comes behind is an act of its own", 3, () -> alone.acts(0));
        Room opened = typed("ab");
        opened.group(true);
        opened.play(1);
        put(opened, "c");
        e.due("a group that begins with it", 2, () -> opened.acts(0));
        Room ways = Check.room("ab cd\nef\n\ngh");
        ways.record(true);
        ways.moveCursors(Cursorroom.WORDS, 2);
        ways.moveCursors(Cursorroom.LINES, 1);
        ways.moveCursors(Cursorroom.PARAGRAPHS, 1);
        ways.moveCursors(Cursorroom.ENDS, 1);
        ways.moveCursors(Cursorroom.LETTERS, -1);
        ways.record(false);
        ways.setCursor(0);
        ways.play(1);
        e.due("moves of all ways", "11", Check.cursors(ways));
        e.nothing("nothing recorded", 0, () -> Check.room("abc"), r -> r.play(20));
        Room moves = Check.room("abc");
        moves.record(true);
        moves.moveCursors(Cursorroom.LETTERS, 1);
        moves.erase(0);
        moves.record(false);
        moves.play(1);
        e.due("steps that do nothing to the text are no act", 1, () -> moves.acts(0));

        e.says("(paste() puts the clip as it is then; nothing of it is recorded.)");
        Room clip = Check.room("abc");
        clip.copy(0, 1);
        clip.record(true);
        clip.paste();
        clip.record(false);
        clip.copy(2, 4);
        clip.play(1);
        e.dueText("another clip", "abcabc", clip);
        e.due("nothing is recorded", 1, () -> clip.record(false));
        clip.copy(0, 0);
        e.due("an empty clip is a step that is done", 1, () -> clip.play(1));

        e.says("`times`: 1 to 20");
        Room times = typed("a");
        times.play(1);
        e.dueText("1", "aa", times);
        times.play(20);
        e.dueText("20", "a".repeat(22), times);

        e.says("Returns how many steps were done");
        e.due("one", 1, () -> typed("a").play(1));
        e.due("20 times one", 20, () -> typed("a").play(20));
        e.due("none recorded", 0, () -> new Room().play(20));
        Room forty = new Room();
        forty.record(true);
        for (int step = 0; step < 40; step++) {
            forty.erase(1);
        }
        forty.record(false);
        e.due("20 times 40 that do nothing", 800, () -> forty.play(20));
    }

    /** A room that has recorded a move to the left and one letter, and has a text of so many letters then. */
    private static Room moveAndType(int letters) {
        Room x = Edge.letters(letters - 1);
        x.setCursor(1);
        Check.tape(x, "b");
        x.record(true);
        x.moveCursors(Cursorroom.LETTERS, 1);
        x.type();
        x.record(false);
        return x;
    }

    private static void promise37Refused(Edge e) {
        e.says("if times is out of range");
        e.refused("0", Edge.ARGUMENT, () -> typed("a"), r -> r.play(0));
        e.refused("-1", Edge.ARGUMENT, () -> typed("a"), r -> r.play(-1));
        e.refused("21", Edge.ARGUMENT, () -> typed("a"), r -> r.play(21));
        e.refused("far above", Edge.ARGUMENT, () -> typed("a"), r -> r.play(Integer.MAX_VALUE));
        e.refused("far below", Edge.ARGUMENT, () -> typed("a"), r -> r.play(Integer.MIN_VALUE));
        e.refused("0 while it records", Edge.ARGUMENT, r -> r.play(0));
        e.refused("21 while it records", Edge.ARGUMENT, r -> r.play(21));

        e.says("if it records");
        e.refused("some steps", Edge.STATE, r -> r.play(1));
        e.refused("nothing yet", Edge.STATE, () -> {
            Room r = new Room();
            r.record(true);
            return r;
        }, r -> r.play(20));
    }

    private static void promise37Bounds(Edge e) {
        e.says("The first step that would be refused, and all behind it, are not done");
        Room x = moveAndType(2998);
        e.due("3001 letters", 5, () -> x.play(20));
        e.due("what was done stays", 3000, () -> x.count(0));
        e.due("the move ahead of it too", "8", Check.cursors(x));
        e.due("one act", 17, () -> x.acts(0));
        Room fits = moveAndType(2998);
        e.due("3000 letters", 4, () -> fits.play(2));
        Room lines = Edge.lines(298);
        Check.tape(lines, "\n");
        lines.record(true);
        lines.type();
        lines.erase(-1);
        lines.type();
        lines.type();
        lines.erase(-1);
        lines.record(false);
        e.due("301 lines, and an erase behind it", 3, () -> lines.play(2));
        e.due("300 lines", 300, () -> lines.count(1));
        Room first = Edge.letters(2900);
        Check.tape(first, "b".repeat(100));
        first.record(true);
        first.type();
        first.record(false);
        e.due("the first of all", 0, () -> first.play(20));
        e.due("no act then", 16, () -> first.acts(0));
        Room acts = Check.room("a");
        Check.tape(acts, "b");
        acts.record(true);
        acts.moveCursors(Cursorroom.LETTERS, 1);
        acts.type();
        acts.record(false);
        for (int act = 2; act < 150; act++) {
            acts.type();
        }
        acts.setCursor(0);
        e.due("150 acts", 150, () -> acts.acts(0));
        e.due("the act 151: not the step that changes the text", 1, () -> acts.play(20));
        e.due("but the move ahead of it", "1", Check.cursors(acts));
        acts.group(true);
        e.due("nor in an open group without an act", 1, () -> acts.play(20));
        e.due("which stays open", 1, () -> Check.bit(acts.group(false)));
        Room last = UndoTest.full();
        last.undo(1);
        last.record(true);
        last.moveCursors(Cursorroom.LETTERS, 0);
        last.erase(0);
        last.record(false);
        e.due("steps that are no act, with 150 acts", 40, () -> last.play(20));
    }
}
