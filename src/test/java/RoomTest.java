import java.lang.management.ManagementFactory;
import java.util.function.Consumer;

/** All calls of one run live in one room: the dearest runs of 512 calls must stay far below its bound. */
final class RoomTest {
    // The room takes 7.3 million fields and elements. No element has less than one byte, and no object
    // of the class has more than some forty bytes besides, so this many bytes lie below it.
    private static final long MOST_BYTES = 5_000_000;

    private RoomTest() {
    }

    static void run() {
        measured("acts, undone and done again", RoomTest::acts);
        measured("errors", RoomTest::errors);
        measured("differences", RoomTest::differences);
        measured("play", RoomTest::play);
        measured("replaceAll", RoomTest::replaceAll);
        measured("undo", RoomTest::undo);
        measured("clip and block", RoomTest::clip);
    }

    private static void measured(String what, Consumer<Cursorroom> calls) {
        com.sun.management.ThreadMXBean bean = (com.sun.management.ThreadMXBean) ManagementFactory.getThreadMXBean();
        long thread = Thread.currentThread().getId();
        long before = bean.getThreadAllocatedBytes(thread);
        calls.accept(new Cursorroom());
        long bytes = bean.getThreadAllocatedBytes(thread) - before;
        if (bytes >= MOST_BYTES) {
            System.out.println(what + " took " + bytes + " bytes");
        }
        Check.due("room for " + what, true, bytes < MOST_BYTES);
    }

    private static void fill(Cursorroom x, int letters, long eight) {
        for (int at = 0; at < 200; at += 8) {
            x.feed(eight);
        }
        for (int at = 0; at < letters; at += 200) {
            x.type();
        }
    }

    private static void acts(Cursorroom x) {
        fill(x, 2200, 0x6161616161610a61L);
        x.clearTape();
        for (int act = 0; act < 200; act++) {
            try {
                x.feed('a');
                x.clearTape();
                x.feed('b');
                x.replace(0, 1);
            } catch (IllegalStateException e) {
                break;
            }
        }
        for (int time = 0; time < 40; time++) {
            x.undo(150);
            x.redo(150);
        }
    }

    private static void errors(Cursorroom x) {
        fill(x, 2200, 0x6161616161610a61L);
        x.clearTape();
        x.feed('b');
        for (int act = 0; act < 130; act++) {
            x.replace(act, act + 1);
        }
        for (int time = 0; time < 300; time++) {
            x.errors();
        }
    }

    private static void differences(Cursorroom x) {
        fill(x, 2000, 0x616161616161610aL);
        x.keep();
        for (int time = 0; time < 400; time++) {
            x.differences();
            x.sameShare();
        }
    }

    private static void play(Cursorroom x) {
        x.feed('a');
        x.record(true);
        for (int step = 0; step < 20; step++) {
            x.type();
            x.erase(-1);
        }
        x.record(false);
        for (int time = 0; time < 400; time++) {
            x.play(20);
        }
    }

    private static void replaceAll(Cursorroom x) {
        fill(x, 2800, 0x6161616161616161L);
        x.clearTape();
        x.feed('a');
        x.setPattern(false);
        for (int time = 0; time < 130; time++) {
            x.replaceAll();
        }
        for (int time = 0; time < 100; time++) {
            x.undo(3);
            x.find(0, false);
        }
    }

    private static void undo(Cursorroom x) {
        x.feed('a');
        for (int time = 0; time < 150; time++) {
            x.type();
            x.undo(1);
        }
        for (int time = 0; time < 80; time++) {
            x.branch(time);
            x.redo(1);
            x.undo(1);
        }
    }

    private static void clip(Cursorroom x) {
        fill(x, 2000, 0x616161616161610aL);
        for (int time = 0; time < 400; time++) {
            x.copyBlock(0, x.count(1), 0, 40);
            x.copy(0, x.count(0));
        }
    }
}
