/** All that calls can tell of a room: rooms that differ in anything tell different texts. */
final class Probe {
    private final Room room;
    private final StringBuilder told = new StringBuilder();

    private Probe(Room room) {
        this.room = room;
    }

    /** Changes the room: what it holds shows in what the next calls answer. */
    static String of(Room room) {
        Probe probe = new Probe(room);
        probe.counts();
        probe.lines();
        probe.views();
        probe.columns();
        probe.doings();
        probe.tree();
        return probe.told.toString();
    }

    private void tell(String what, java.util.function.LongSupplier call) {
        told.append(what).append(' ').append(Check.outcome(call)).append("; ");
    }

    private void counts() {
        for (int what = 0; what <= 7; what++) {
            int w = what;
            tell("count " + w, () -> room.count(w));
        }
        for (int what = 1; what <= 3; what++) {
            int w = what;
            tell("acts " + w, () -> room.acts(w));
        }
        tell("differences", room::differences);
        told.append("share ").append(room.sameShare()).append("; mean ").append(room.meanLine()).append("; ");
        state();
        told.append("marks ").append(Check.marks(room)).append("; ");
    }

    private void state() {
        tell("sum", room::hash);
        tell("acts", () -> room.acts(0));
        told.append("cursors ").append(Check.cursors(room)).append("; ");
    }

    private void lines() {
        int lines = Math.min(20, room.count(1));
        for (int line = 1; line < lines; line++) {
            told.append(room.isHidden(line) ? "-" : "+");
        }
        told.append("; ");
    }

    private void views() {
        for (int view = 0; view <= 1; view++) {
            int v = view;
            for (int row = 0; row <= 4; row++) {
                int r = row;
                tell("row", () -> room.rowOf(v, r));
            }
            int height = 1;
            for (int step = 32; step > 0; step /= 2) {
                int row = height + step - 1;
                height += Check.outcome(() -> room.rowOf(v, row)).startsWith("throws") ? 0 : step;
            }
            told.append("height ").append(height).append("; ");
            tell("top", () -> room.setView(v, 0, 40));
        }
    }

    private void columns() {
        int place = room.cursorAt(room.count(2) - 1);
        tell("column", () -> room.columnOf(place));
        tell("tab", () -> room.setTab(4));
    }

    /** What the tape, the clip, the pattern, the steps and the leans are shows in what they do. */
    private void doings() {
        for (int mark = 0; mark < 16; mark += 3) {
            int place = room.markAt(mark);
            if (place != Cursorroom.NONE) {
                tell("put at a mark", () -> room.replace(place, place));
            }
        }
        told.append("marks ").append(Check.marks(room)).append("; ");
        tell("type", room::type);
        state();
        tell("paste", room::paste);
        state();
        tell("group", () -> Check.bit(room.group(false)));
        tell("erase", () -> room.erase(-1));
        state();
        tell("steps", () -> room.record(false));
        tell("find", () -> room.find(0, true));
        tell("find", () -> room.find(room.count(0), false));
        tell("play", () -> room.play(1));
        state();
        tell("replaceNext", room::replaceNext);
        state();
        tell("replaceAll", room::replaceAll);
        state();
        tell("indent", () -> room.indent(0, 0, 1));
        tell("wrap", () -> room.wrap(0, 1));
        tell("joinLines", () -> room.joinLines(0, room.count(1) - 1));
        state();
        tell("differences", room::differences);
    }

    private void tree() {
        for (int time = 0; time < 5; time++) {
            tell("undo", () -> room.undo(1));
            state();
            tell("continuations", () -> room.acts(3));
            tell("ahead", () -> room.acts(2));
        }
        tell("undo all", () -> room.undo(150));
        state();
        for (int time = 0; time < 3; time++) {
            tell("redo", () -> room.redo(1));
            state();
        }
        tell("redo all", () -> room.redo(150));
        state();
    }
}
