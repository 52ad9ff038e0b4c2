import java.util.NoSuchElementException;

/** Each sentence of the promises 16 to 20, at its edges: undoing, doing again, branches and groups. */
final class EdgeUndoTest {
    private static final Class<NoSuchElementException> NO_SUCH = NoSuchElementException.class;

    private EdgeUndoTest() {
    }

    static void run(Document document) {
        promise16(new Edge(document, "P16"));
        promise17(new Edge(document, "P17"));
        promise18(new Edge(document, "P18"));
        promise19(new Edge(document, "P19"));
        promise20(new Edge(document, "P20"));
    }

    private static void put(Room x, String letters) {
        Check.tape(x, letters);
        x.type();
    }

    /** A room with three acts, a, b and c. */
    private static Room three() {
        Room x = new Room();
        put(x, "a");
        put(x, "b");
        put(x, "c");
        return x;
    }

    private static Room undone(Room x, int many) {
        x.undo(many);
        return x;
    }

    private static void promise16(Edge e) {
        e.says("Undoes acts");
        Room x = three();
        x.undo(1);
        e.dueText("the last one", "ab", x);
        x.undo(2);
        e.dueText("all", "", x);
        Room y = three();
        y.undo(150);
        e.dueText("all at once", "", y);
        e.due("the cursor is where it was", "0", Check.cursors(y));
        e.nothing("none are left", 0, () -> undone(three(), 3), r -> r.undo(1));

        e.says("`many`: 1 to 150");
        e.due("1", 1, () -> three().undo(1));
        e.due("149", 149, () -> UndoTest.full().undo(149));
        e.due("150", 150, () -> UndoTest.full().undo(150));

        e.says("Returns how many were undone; fewer than many if there are no more");
        e.due("as many as asked for", 2, () -> three().undo(2));
        e.due("just as many as there are", 3, () -> three().undo(3));
        e.due("one more than there are", 3, () -> three().undo(4));
        e.due("none", 0, () -> new Room().undo(150));
        e.due("none any more", 0, () -> undone(three(), 3).undo(1));

        e.says("if many is out of range");
        e.refused("0", Edge.ARGUMENT, r -> r.undo(0));
        e.refused("-1", Edge.ARGUMENT, r -> r.undo(-1));
        e.refused("151", Edge.ARGUMENT, r -> r.undo(151));
        e.refused("far above", Edge.ARGUMENT, r -> r.undo(Integer.MAX_VALUE));
        e.refused("far below", Edge.ARGUMENT, r -> r.undo(Integer.MIN_VALUE));
        e.refused("0 in a new room", Edge.ARGUMENT, Room::new, r -> r.undo(0));
    }

    private static void promise17(Edge e) {
        e.says("Does acts again");
        Room x = undone(three(), 3);
        x.redo(1);
        e.dueText("the first one", "a", x);
        x.redo(150);
        e.dueText("all others", "abc", x);
        e.due("the cursor is where it was", "3", Check.cursors(x));
        e.nothing("none are left", 0, EdgeUndoTest::three, r -> r.redo(1));
        e.nothing("none behind a new act", 0, () -> {
            Room r = undone(three(), 2);
            put(r, "d");
            return r;
        }, r -> r.redo(150));

        e.says("`many`: 1 to 150");
        e.due("1", 1, () -> undone(three(), 3).redo(1));
        e.due("149", 149, () -> undone(UndoTest.full(), 150).redo(149));
        e.due("150", 150, () -> undone(UndoTest.full(), 150).redo(150));

        e.says("Returns how many were done again");
        e.due("as many as asked for", 2, () -> undone(three(), 3).redo(2));
        e.due("just as many as there are", 3, () -> undone(three(), 3).redo(3));
        e.due("fewer", 2, () -> undone(three(), 2).redo(3));
        e.due("none", 0, () -> new Room().redo(1));

        e.says("if many is out of range");
        e.refused("0", Edge.ARGUMENT, r -> r.redo(0));
        e.refused("-1", Edge.ARGUMENT, r -> r.redo(-1));
        e.refused("151", Edge.ARGUMENT, r -> r.redo(151));
        e.refused("far above", Edge.ARGUMENT, r -> r.redo(Integer.MAX_VALUE));
        e.refused("far below", Edge.ARGUMENT, r -> r.redo(Integer.MIN_VALUE));
        e.refused("0 with acts that could be done again", Edge.ARGUMENT, () -> undone(three(), 2), r -> r.redo(0));
    }

    /** A room at the beginning of its tree, with the continuations a (with one of its own), b and c. */
    private static Room branches() {
        Room x = new Room();
        put(x, "a");
        put(x, "d");
        x.undo(2);
        put(x, "b");
        x.undo(1);
        put(x, "c");
        x.undo(1);
        return x;
    }

    private static Room chosen(int index) {
        Room x = branches();
        x.branch(index);
        x.redo(150);
        return x;
    }

    private static void promise18(Edge e) {
        e.says("Chooses which continuation is done again next");
        e.dueText("the first one, and its own behind it", "ad", chosen(0));
        e.dueText("one in the middle", "b", chosen(1));
        e.dueText("the last one", "c", chosen(2));
        Room x = branches();
        x.branch(0);
        x.branch(1);
        x.redo(1);
        e.dueText("the one chosen last", "b", x);
        e.nothing("the one that would be done next anyway", 3, EdgeUndoTest::branches, r -> r.branch(2));

        e.says("`index`: 0 for the one that was done first");
        e.due("0", 2, () -> {
            Room r = branches();
            r.branch(0);
            return r.acts(2);
        });
        Room one = undone(three(), 1);
        e.due("0 of one", 1, () -> one.branch(0));

        e.says("Returns the number of continuations");
        e.due("three", 3, () -> branches().branch(1));
        e.due("one", 1, () -> undone(three(), 3).branch(0));
        Room many = UndoTest.full();
        for (int time = 0; time < 20; time++) {
            many.undo(1);
        }
        e.due("one of a long row", 1, () -> many.branch(0));

        e.says("if there is none such");
        e.refused("3 of three", NO_SUCH, EdgeUndoTest::branches, r -> r.branch(3));
        e.refused("-1", NO_SUCH, EdgeUndoTest::branches, r -> r.branch(-1));
        e.refused("far above", NO_SUCH, EdgeUndoTest::branches, r -> r.branch(Integer.MAX_VALUE));
        e.refused("far below", NO_SUCH, EdgeUndoTest::branches, r -> r.branch(Integer.MIN_VALUE));
        e.refused("0 of none", NO_SUCH, Edge::busy, r -> r.branch(0));
        e.refused("0 in a new room", NO_SUCH, Room::new, r -> r.branch(0));
        e.refused("0 with 150 acts", NO_SUCH, UndoTest::full, r -> r.branch(0));
        e.refused("an act that is a continuation of another one", NO_SUCH, () -> undone(three(), 2), r -> r.branch(1));
    }

    private static void promise19(Edge e) {
        e.says("Opens or closes a group");
        Room x = new Room();
        x.group(true);
        put(x, "a");
        put(x, "b");
        x.group(false);
        put(x, "c");
        e.due("two acts are one", 2, () -> x.acts(0));
        e.due("undone one by one", 1, () -> x.undo(1));
        e.dueText("the one behind it", "ab", x);
        x.undo(1);
        e.dueText("the group", "", x);
        Room empty = three();
        empty.group(true);
        empty.group(false);
        e.due("a group without an act is not kept", 3, () -> empty.acts(0));

        e.says("`isOpen`: whether it is open then (one that is open already is closed first)");
        Room y = new Room();
        y.group(true);
        put(y, "a");
        y.group(true);
        put(y, "b");
        put(y, "c");
        e.due("two groups", 2, () -> y.acts(0));
        y.undo(1);
        e.dueText("the second one is undone alone", "a", y);
        Room z = new Room();
        z.group(true);
        z.group(true);
        put(z, "a");
        put(z, "b");
        e.due("opened twice, no act between", 1, () -> z.acts(0));
        Room closed = new Room();
        closed.group(false);
        put(closed, "a");
        put(closed, "b");
        e.due("closed though none was open", 2, () -> closed.acts(0));

        e.says("Returns whether one was open");
        Room answers = new Room();
        e.due("at first", 0, () -> Check.bit(answers.group(false)));
        e.due("none yet", 0, () -> Check.bit(answers.group(true)));
        e.due("opened again", 1, () -> Check.bit(answers.group(true)));
        e.due("closed", 1, () -> Check.bit(answers.group(false)));
        e.due("closed again", 0, () -> Check.bit(answers.group(false)));
    }

    private static void promise20(Edge e) {
        e.says("Returns a count");
        Room x = branches();
        e.due("kept", 4, () -> x.acts(0));
        e.due("to undo", 0, () -> x.acts(1));
        e.due("to do again", 1, () -> x.acts(2));
        e.due("continuations", 3, () -> x.acts(3));
        e.nothing("it changes nothing", 4, EdgeUndoTest::branches, r -> r.acts(0));

        e.says("`what`: 0 for the acts that are kept, 1 for those that could be undone, one behind the other, 2 for");
        Room full = UndoTest.full();
        e.due("150 kept", 150, () -> full.acts(0));
        e.due("150 to undo", 150, () -> full.acts(1));
        e.due("none to do again", 0, () -> full.acts(2));
        e.due("no continuation", 0, () -> full.acts(3));
        full.undo(150);
        e.due("150 kept, all undone", 150, () -> full.acts(0));
        e.due("none to undo", 0, () -> full.acts(1));
        e.due("150 to do again", 150, () -> full.acts(2));
        e.due("one continuation", 1, () -> full.acts(3));
        Room other = branches();
        other.branch(0);
        e.due("those behind the one that was chosen", 2, () -> other.acts(2));

        e.says("Returns the number");
        for (int what = 0; what <= 3; what++) {
            int w = what;
            e.due("none of " + what, 0, () -> new Room().acts(w));
        }

        e.says("if what is out of range");
        e.refused("-1", Edge.ARGUMENT, r -> r.acts(-1));
        e.refused("4", Edge.ARGUMENT, r -> r.acts(4));
        e.refused("far above", Edge.ARGUMENT, r -> r.acts(Integer.MAX_VALUE));
        e.refused("far below", Edge.ARGUMENT, r -> r.acts(Integer.MIN_VALUE));
    }
}
