import com.sun.management.ThreadMXBean;
import java.lang.management.ManagementFactory;
import java.lang.reflect.Array;
import java.lang.reflect.Field;
import java.lang.reflect.Modifier;
import java.util.ArrayDeque;
import java.util.Collections;
import java.util.IdentityHashMap;
import java.util.Set;
import java.util.function.Consumer;
import java.util.function.LongSupplier;

/** All calls of one run live in one room: constructors make all rows, and calls use them again. */
final class RoomTest {
    private static final int CALLS = 512;
    private static final long ROOM_FOR_OBJECTS = 600_000;
    private static final long ROOM_FOR_ELEMENTS = 7_300_000;
    // So many bytes hold a few objects without rows; no element and no field has less than one byte.
    private static final long BYTES_OF_A_CALL = 200;
    private static final ThreadMXBean BEAN = (ThreadMXBean) ManagementFactory.getThreadMXBean();

    private RoomTest() {
    }

    static void run() {
        constructors();
        neverUndone();
        everyCall();
        dearRun("acts, undone and done again", RoomTest::acts);
        dearRun("errors", RoomTest::errors);
        dearRun("differences", RoomTest::differences);
        dearRun("play", RoomTest::play);
        dearRun("replaceAll", RoomTest::replaceAll);
        dearRun("undo", RoomTest::undo);
        dearRun("clip and block", RoomTest::clip);
    }

    // ---- what is measured

    private static long bytesOf(Runnable call) {
        long thread = Thread.currentThread().getId();
        long before = BEAN.getThreadAllocatedBytes(thread);
        call.run();
        return BEAN.getThreadAllocatedBytes(thread) - before;
    }

    private static void atMost(String what, long most, long bytes) {
        if (bytes > most) {
            System.out.println(what + " made " + bytes + " bytes");
        }
        Check.due("room: " + what, true, bytes <= most);
    }

    /** All objects and rows that can be reached from an object. */
    private static Set<Object> reachedFrom(Object first) {
        Set<Object> all = Collections.newSetFromMap(new IdentityHashMap<>());
        ArrayDeque<Object> open = new ArrayDeque<>();
        all.add(first);
        open.add(first);
        while (!open.isEmpty()) {
            Object next = open.remove();
            for (Field field : next.getClass().getDeclaredFields()) {
                Object value = Modifier.isStatic(field.getModifiers()) ? null : valueOf(field, next);
                if (value != null && !field.getType().isPrimitive() && all.add(value)) {
                    open.add(value);
                }
            }
            if (next instanceof Object[] row) {
                for (Object value : row) {
                    if (value != null && all.add(value)) {
                        open.add(value);
                    }
                }
            }
        }
        return all;
    }

    private static Object valueOf(Field field, Object of) {
        try {
            field.setAccessible(true);
            return field.get(of);
        } catch (IllegalAccessException e) {
            throw new IllegalStateException(e);
        }
    }

    private static long elementsOf(Set<Object> objects) {
        long many = 0;
        for (Object object : objects) {
            if (object.getClass().isArray()) {
                many += Array.getLength(object);
            }
            for (Field field : object.getClass().getDeclaredFields()) {
                many += Modifier.isStatic(field.getModifiers()) ? 0 : 1;
            }
        }
        return many;
    }

    // ---- the constructors and single calls

    private static void constructors() {
        Set<Object> objects = reachedFrom(new Cursorroom());
        long elements = elementsOf(objects) + CALLS * BYTES_OF_A_CALL;
        Check.due("room: objects of all constructors and calls, in tenths of the room", 0L,
                (objects.size() + CALLS * BYTES_OF_A_CALL / 16) * 10 / ROOM_FOR_OBJECTS);
        Check.due("room: elements of all constructors and calls, in tenths of the room", 0L,
                elements * 10 / ROOM_FOR_ELEMENTS);
    }

    /** A room with 3000 letters and 15 acts or more, none of which was ever undone. */
    private static Room full(int acts) {
        Room x = new Room();
        fill(x, 3000, 0x6120612061612061L);
        x.clearTape();
        x.feed(10);
        for (int act = x.acts(0); act < acts; act++) {
            x.replace(act * 20, act * 20 + 1);
        }
        return x;
    }

    private static void neverUndone() {
        for (int time = 0; time < 2; time++) {
            Room x = full(150);
            Check.due("room: letters", 3000, () -> x.count(0));
            Check.due("room: acts", 150, () -> x.acts(1));
            Room y = full(150);
            single("undo(150)", time, 150, () -> x.undo(150));
            single("redo(150)", time, 150, () -> x.redo(150));
            single("errors()", time, 0, y::errors);
        }
    }

    /** Measures only the second time: the machine itself makes things when a place of code runs first. */
    private static void single(String what, int time, long want, LongSupplier call) {
        long[] got = new long[1];
        long bytes = bytesOf(() -> got[0] = call.getAsLong());
        Check.due("room: " + what, (Object) want, got[0]);
        if (time > 0) {
            atMost(what, BYTES_OF_A_CALL, bytes);
        }
    }

    private static void everyCall() {
        for (int time = 0; time < 2; time++) {
            actCalls(time, full(15));
            otherCalls(time, full(150));
        }
    }

    private static void each(String what, int time, LongSupplier call) {
        long bytes = bytesOf(call::getAsLong);
        if (time > 0) {
            atMost(what, BYTES_OF_A_CALL, bytes);
        }
    }

    private static void actCalls(int time, Room x) {
        x.clearTape();
        x.feed('a');
        x.setPattern(false);
        each("replaceAll", time, x::replaceAll);
        each("replaceNext", time, x::replaceNext);
        each("erase", time, () -> x.erase(-100));
        x.erase(100);
        x.cut(0, 1000);
        each("feed", time, () -> x.feed(0x6161616161616161L));
        each("type", time, x::type);
        each("replace", time, () -> x.replace(0, 1));
        each("paste", time, x::paste);
        each("cut", time, () -> x.cut(0, 900));
        each("indent", time, () -> x.indent(0, x.count(1) - 1, 8));
        each("joinLines", time, () -> x.joinLines(0, x.count(1) - 1));
        each("wrap", time, () -> x.wrap(0, 10));
        each("copyBlock", time, () -> x.copyBlock(0, 20, 0, 5));
        each("paste of a block", time, x::paste);
        x.record(true);
        for (int step = 0; step < 10; step++) {
            x.type();
            x.moveCursors(Cursorroom.LETTERS, -1);
            x.erase(-1);
            x.erase(1);
        }
        each("record", time, () -> x.record(false));
        each("play", time, () -> x.play(20));
        each("group", time, () -> Check.bit(x.group(true)));
        each("branch", time, () -> {
            x.undo(1);
            return x.branch(0);
        });
    }

    private static void otherCalls(int time, Room x) {
        each("clearTape", time, x::clearTape);
        each("copy", time, () -> x.copy(0, 3000));
        each("acts", time, () -> x.acts(0) + x.acts(1) + x.acts(2) + x.acts(3));
        each("setCursor", time, () -> x.setCursor(0));
        each("addCursor", time, () -> x.addCursor(3000));
        for (int way = 0; way <= Cursorroom.PARAGRAPHS; way++) {
            int by = way;
            each("moveCursors " + way, time, () -> x.moveCursors(by, 50) + x.moveCursors(by, -50));
        }
        each("cursorAt", time, () -> x.cursorAt(0));
        each("setMark", time, () -> x.setMark(0, 5, true));
        each("markAt", time, () -> x.markAt(0) + x.markBeside(3, true) + x.dropMark(0));
        x.feed('a');
        each("setPattern", time, () -> x.setPattern(true));
        each("find", time, () -> x.find(0, true) + x.find(3000, false));
        each("fold", time, () -> x.fold(5, 20));
        each("isHidden", time, () -> Check.bit(x.isHidden(6)));
        each("unfold", time, () -> x.unfold(6));
        each("setView", time, () -> x.setView(0, 100, 40));
        each("rowOf", time, () -> x.rowOf(0, 30));
        each("count", time, () -> x.count(4) + x.count(7));
        each("letterAt", time, () -> x.letterAt(5) + x.lineOf(2000) + x.columnOf(2000));
        each("placeAt", time, () -> x.placeAt(3, 7) + x.setTab(3) + x.hash());
        each("meanLine", time, () -> (long) x.meanLine());
        each("keep", time, x::keep);
        each("differences", time, () -> x.differences() + (long) x.sameShare());
    }

    // ---- dear runs

    private static void dearRun(String what, Consumer<Room> calls) {
        calls.accept(new Room());
        Room x = new Room();
        Set<Object> first = reachedFrom(x);
        atMost(what, CALLS * BYTES_OF_A_CALL, bytesOf(() -> calls.accept(x)));
        Check.due("room: nothing new stays of " + what, true, first.containsAll(reachedFrom(x)));
    }

    private static void fill(Room x, int letters, long eight) {
        for (int at = 0; at < 200; at += 8) {
            x.feed(eight);
        }
        for (int at = 0; at < letters; at += 200) {
            x.type();
        }
    }

    private static void acts(Room x) {
        fill(x, 2200, 0x6161616161610a61L);
        x.clearTape();
        x.feed('b');
        for (int act = x.acts(0); act < 150; act++) {
            x.replace(0, 1);
        }
        for (int time = 0; time < 160; time++) {
            x.undo(150);
            x.redo(150);
        }
    }

    private static void errors(Room x) {
        fill(x, 2200, 0x6161616161610a61L);
        x.clearTape();
        x.feed('b');
        for (int act = 0; act < 130; act++) {
            x.replace(act, act + 1);
        }
        for (int time = 0; time < 300; time++) {
            x.errors();
        }
    }

    private static void differences(Room x) {
        fill(x, 2000, 0x616161616161610aL);
        x.keep();
        for (int time = 0; time < 230; time++) {
            x.differences();
            x.sameShare();
        }
    }

    private static void play(Room x) {
        x.feed('a');
        x.record(true);
        for (int step = 0; step < 20; step++) {
            x.type();
            x.erase(-1);
        }
        x.record(false);
        for (int time = 0; time < 400; time++) {
            x.play(20);
        }
    }

    private static void replaceAll(Room x) {
        fill(x, 2800, 0x6161616161616161L);
        x.clearTape();
        x.feed('a');
        x.setPattern(false);
        for (int time = 0; time < 130; time++) {
            x.replaceAll();
        }
        for (int time = 0; time < 100; time++) {
            x.undo(3);
            x.find(0, false);
        }
    }

    private static void undo(Room x) {
        x.feed('a');
        for (int time = 0; time < 150; time++) {
            x.type();
            x.undo(1);
        }
        for (int time = 0; time < 60; time++) {
            x.branch(time);
            x.redo(1);
            x.undo(1);
        }
    }

    private static void clip(Room x) {
        fill(x, 2000, 0x616161616161610aL);
        for (int time = 0; time < 110; time++) {
            x.copyBlock(0, x.count(1), 0, 40);
            x.copy(0, x.count(0));
        }
    }
}
