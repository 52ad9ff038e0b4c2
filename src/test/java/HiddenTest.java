/** Promises 31 to 35: hidden lines and views. */
final class HiddenTest {
    private HiddenTest() {
    }

    static void run() {
        promise31();
        promise32();
        promise33();
        promise34();
        promise35();
    }

    private static Room eight() {
        return Check.room("a\nb\nc\nd\ne\nf\ng\nh");
    }

    private static void promise31() {
        Room x = eight();
        Check.due("P31 hidden in all", 2, () -> x.fold(0, 2));
        Check.due("P31 lines", "1 2", Check.hidden(x));
        Check.due("P31 more", 4, () -> x.fold(4, 6));
        Check.due("P31 over one that is hidden", 5, () -> x.fold(4, 7));
        Check.due("P31 from a hidden line", 6, () -> x.fold(2, 3));
        Check.due("P31 lines then", "1 2 3 5 6 7", Check.hidden(x));
        Check.due("P31 count", 6, () -> x.count(4));
        Check.dueThrow("P31 from below", IndexOutOfBoundsException.class, () -> x.fold(-1, 2));
        Check.dueThrow("P31 to above", IndexOutOfBoundsException.class, () -> x.fold(3, 8));
        Check.dueThrow("P31 line before order", IndexOutOfBoundsException.class, () -> x.fold(8, 2));
        Check.dueThrow("P31 one line", IllegalArgumentException.class, () -> x.fold(3, 3));
        Check.dueThrow("P31 turned", IllegalArgumentException.class, () -> x.fold(3, 2));
        Room y = eight();
        Check.cursors(y, 4, 11);
        Check.dueThrow("P31 a cursor in the last one", IllegalStateException.class, () -> y.fold(2, 5));
        Check.dueThrow("P31 a cursor in the first one", IllegalStateException.class, () -> y.fold(1, 4));
        Check.due("P31 nothing hidden", "", Check.hidden(y));
        Check.due("P31 between cursors", 2, () -> y.fold(2, 4));
        Check.due("P31 no act", 1, () -> y.acts(0));
    }

    private static void promise32() {
        Room x = eight();
        x.fold(0, 2);
        x.fold(2, 3);
        x.fold(4, 5);
        Check.due("P32 the whole fold", 3, () -> x.unfold(2));
        Check.due("P32 the other stays", "5", Check.hidden(x));
        Check.due("P32 not hidden", 0, () -> x.unfold(2));
        Check.due("P32 the line ahead of a fold", 0, () -> x.unfold(4));
        Check.due("P32 one line", 1, () -> x.unfold(5));
        Check.dueThrow("P32 above", IndexOutOfBoundsException.class, () -> x.unfold(8));
        Check.dueThrow("P32 below", IndexOutOfBoundsException.class, () -> x.unfold(-1));
    }

    private static void promise33() {
        Room x = eight();
        x.fold(3, 4);
        Check.due("P33 hidden", 1, () -> Check.bit(x.isHidden(4)));
        Check.due("P33 shown", 0, () -> Check.bit(x.isHidden(3)));
        Check.dueThrow("P33 above", IndexOutOfBoundsException.class, () -> Check.bit(x.isHidden(8)));
        Check.dueThrow("P33 below", IndexOutOfBoundsException.class, () -> Check.bit(x.isHidden(-1)));
    }

    private static void promise34() {
        Room x = eight();
        Check.due("P34 top before", 0, () -> x.setView(0, 5, 40));
        Check.due("P34 top then", 5, () -> x.setView(0, Integer.MAX_VALUE, 1));
        Check.due("P34 the other view", 0, () -> x.setView(1, 3, 2));
        Check.due("P34 a top that is no line", Integer.MAX_VALUE, () -> x.setView(0, 2, 3));
        Check.dueThrow("P34 view 2", IndexOutOfBoundsException.class, () -> x.setView(2, -1, 0));
        Check.dueThrow("P34 view -1", IndexOutOfBoundsException.class, () -> x.setView(-1, 0, 1));
        Check.dueThrow("P34 top below", IllegalArgumentException.class, () -> x.setView(0, -1, 5));
        Check.dueThrow("P34 height 0", IllegalArgumentException.class, () -> x.setView(0, 0, 0));
        Check.dueThrow("P34 height 41", IllegalArgumentException.class, () -> x.setView(0, 0, 41));
        Check.due("P34 unchanged", 2, () -> x.setView(0, 2, 3));
    }

    private static void promise35() {
        Room x = eight();
        Check.due("P35 first height", 7, () -> x.rowOf(1, 7));
        Check.due("P35 none", -1, () -> x.rowOf(0, 8));
        Check.due("P35 last row", -1, () -> x.rowOf(0, 9));
        Check.dueThrow("P35 row above", IllegalArgumentException.class, () -> x.rowOf(0, 10));
        Check.dueThrow("P35 row below", IllegalArgumentException.class, () -> x.rowOf(0, -1));
        Check.dueThrow("P35 view first", IndexOutOfBoundsException.class, () -> x.rowOf(2, -1));
        Check.dueThrow("P35 view below", IndexOutOfBoundsException.class, () -> x.rowOf(-1, 0));
        x.fold(1, 3);
        x.fold(4, 5);
        Check.due("P35 row 0", 0, () -> x.rowOf(0, 0));
        Check.due("P35 row 2", 4, () -> x.rowOf(0, 2));
        Check.due("P35 row 3", 6, () -> x.rowOf(0, 3));
        Check.due("P35 row 5", -1, () -> x.rowOf(0, 5));
        x.setView(0, 3, 2);
        Check.due("P35 a hidden top line", 1, () -> x.rowOf(0, 0));
        Check.due("P35 the next row", 4, () -> x.rowOf(0, 1));
        Check.dueThrow("P35 height", IllegalArgumentException.class, () -> x.rowOf(0, 2));
        x.setView(1, 100, 3);
        Check.due("P35 behind the last line", 7, () -> x.rowOf(1, 0));
        Check.due("P35 none behind it", -1, () -> x.rowOf(1, 1));
        x.fold(5, 7);
        Check.due("P35 the last line hidden", 4, () -> x.rowOf(1, 0));
        x.replace(0, 15);
        Check.due("P35 empty text", 0, () -> x.rowOf(1, 0));
        x.undo(1);
        Check.due("P35 the top stays", 4, () -> x.rowOf(1, 0));
        x.setView(1, 6, 3);
        x.unfold(7);
        Check.due("P35 the top line", 6, () -> x.rowOf(1, 0));
    }
}
