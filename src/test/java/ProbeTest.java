import java.util.function.Consumer;

/** The tests of refused calls trust the probe: so each change that a call makes must show in what it tells. */
final class ProbeTest {
    private ProbeTest() {
    }

    static void run() {
        Check.due("probe: rooms that are the same tell the same", Probe.of(Edge.busy()), Probe.of(Edge.busy()));
        rows();
        acts();
        places();
        others();
    }

    private static void shows(String what, Consumer<Room> call) {
        Room x = Edge.busy();
        call.accept(x);
        Check.due("probe: " + what + " shows", false, Probe.of(x).equals(Probe.of(Edge.busy())));
    }

    private static void rows() {
        shows("a longer tape", x -> x.feed('a'));
        shows("another tape", x -> Check.tape(x, "xz\n"));
        shows("an empty tape", Room::clearTape);
        shows("another clip", x -> x.copy(0, 6));
        shows("another block of as many letters", x -> x.copyBlock(1, 3, 1, 2));
        shows("a block of other rows of as many letters", x -> x.copyBlock(0, 2, 1, 3));
        shows("another pattern", x -> pattern(x, "ij", true));
        shows("the pattern without whole words", x -> pattern(x, "ef", false));
        shows("another kept text", Room::keep);
    }

    private static void pattern(Room x, String letters, boolean isWords) {
        Check.tape(x, letters);
        x.setPattern(isWords);
        Check.tape(x, "xy\n");
    }

    private static void acts() {
        shows("letters typed", Room::type);
        shows("letters erased", x -> x.erase(1));
        shows("a part of the group", x -> x.replace(1, 1));
        shows("an act that was undone", x -> x.undo(1));
        shows("an act that was done again", x -> {
            x.undo(1);
            x.redo(1);
        });
        shows("another continuation chosen", x -> {
            x.undo(2);
            x.branch(0);
        });
        shows("a closed group", x -> x.group(false));
        shows("another open group", x -> x.group(true));
        shows("a step more", x -> x.erase(0));
        shows("steps begun anew", x -> x.record(true));
        shows("the end of recording", x -> x.record(false));
    }

    private static void places() {
        shows("one cursor", x -> x.setCursor(7));
        shows("a cursor more", x -> x.addCursor(0));
        shows("cursors elsewhere", x -> x.moveCursors(Cursorroom.LETTERS, 1));
        shows("a mark more", x -> x.setMark(7, 0, true));
        shows("a mark elsewhere", x -> x.setMark(3, 19, false));
        shows("a mark that leans right", x -> x.setMark(0, 8, false));
        shows("a mark that leans left", x -> x.setMark(3, x.markAt(3), true));
        shows("a mark less", x -> x.dropMark(15));
    }

    private static void others() {
        shows("a line hidden", x -> x.fold(4, 5));
        shows("a fold opened", x -> x.unfold(4));
        shows("the top of the view 0", x -> x.setView(0, 3, 5));
        shows("the height of the view 0", x -> x.setView(0, 2, 4));
        shows("the top of the view 1", x -> x.setView(1, 3, 7));
        shows("the height of the view 1", x -> x.setView(1, 4, 8));
        shows("the tab width", x -> x.setTab(8));
    }
}
