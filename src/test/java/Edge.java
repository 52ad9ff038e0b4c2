import java.util.function.LongSupplier;
import java.util.function.Supplier;
import java.util.function.ToLongFunction;

/** Tests of one section of the document, sentence by sentence: each answer is named by both. */
final class Edge {
    static final Class<IllegalArgumentException> ARGUMENT = IllegalArgumentException.class;
    static final Class<IllegalStateException> STATE = IllegalStateException.class;
    static final Class<IndexOutOfBoundsException> INDEX = IndexOutOfBoundsException.class;

    private final Document document;
    private final String section;
    private String words = "";

    Edge(Document document, String section) {
        this.document = document;
        this.section = section;
    }

    /** The answers behind this are due by the sentence that has these words. */
    void says(String words) {
        this.words = words;
        Check.due(section + " has the sentence \"" + words + "\"", true, document.test(section, words));
    }

    private String name(String what) {
        return section + " \"" + words + "\": " + what;
    }

    void due(String what, long want, LongSupplier call) {
        Check.due(name(what), want, call);
    }

    void due(String what, Object want, Object got) {
        Check.due(name(what), want, got);
    }

    /** The text that is due, told by two calls. */
    void dueText(String what, String want, Room x) {
        Check.due(name(what), want.length() + " letters, sum " + want.hashCode(), x.count(0) + " letters, sum " + x.hash());
    }

    /** The call throws this in a room so made, and changes nothing: all that can be asked is as in another such room. */
    void refused(String what, Class<? extends RuntimeException> want, Supplier<Room> maker, ToLongFunction<Room> call) {
        Room x = maker.get();
        Check.dueThrow(name(what), want, () -> call.applyAsLong(x));
        Check.due(name(what) + ", changed nothing", Probe.of(maker.get()), Probe.of(x));
    }

    void refused(String what, Class<? extends RuntimeException> want, ToLongFunction<Room> call) {
        refused(what, want, Edge::busy, call);
    }

    /** The call does not happen as an act: nothing but the answer tells of it. */
    void nothing(String what, long want, Supplier<Room> maker, ToLongFunction<Room> call) {
        Room x = maker.get();
        Check.due(name(what), want, () -> call.applyAsLong(x));
        Check.due(name(what) + ", nothing happened", Probe.of(maker.get()), Probe.of(x));
    }

    /**
     * A room in which nothing is as at first: 37 letters in 8 lines, 3 cursors, marks that lean left and right,
     * folds, views, a tab width, a tape, a block as clip, a pattern, a kept text, continuations, an open group
     * with an act, and steps that are being recorded.
     */
    static Room busy() {
        Room x = Check.room("ab\tcd ef\n gef\n\n\tij kl\nmn\nop ef st\nuv");
        x.keep();
        x.setMark(0, 8, true);
        x.setMark(3, 20, false);
        Check.tape(x, "\n");
        x.replace(36, 36);
        x.erase(2);
        x.undo(1);
        x.setCursor(20);
        x.type();
        x.undo(1);
        x.copyBlock(0, 3, 1, 2);
        Check.tape(x, "ef");
        x.setPattern(true);
        x.setTab(3);
        x.setView(0, 2, 5);
        x.setView(1, 4, 7);
        x.record(true);
        x.setCursor(5);
        x.moveCursors(Cursorroom.LETTERS, 1);
        x.erase(1);
        x.group(true);
        Check.tape(x, "e");
        x.type();
        x.addCursor(2);
        x.addCursor(14);
        x.setMark(15, 14, true);
        x.fold(3, 4);
        x.fold(5, 7);
        Check.tape(x, "xy\n");
        return x;
    }

    /** A room with this text, behind which other letters stood that were undone: they must not count any more. */
    static Room gone(String text, String more) {
        Room x = Check.room(text);
        x.setCursor(text.length());
        Check.tape(x, more);
        x.type();
        x.undo(1);
        x.clearTape();
        return x;
    }

    /** A room with so many letters, all of them the letter a, in one line. */
    static Room letters(int many) {
        return Check.room("a".repeat(many));
    }

    /** A room with so many lines, all of them empty. */
    static Room lines(int many) {
        return Check.room("\n".repeat(many - 1));
    }
}
