/** Promises 1 to 5: a new object, the tape and the clip. */
final class TapeTest {
    private TapeTest() {
    }

    static void run() {
        promise01();
        promise02();
        promise03();
        promise04();
        promise05();
    }

    private static void promise01() {
        Room x = new Room();
        for (int what = 0; what <= 7; what++) {
            int w = what;
            Check.due("P1 count " + w, what == 1 || what == 2 ? 1 : 0, () -> x.count(w));
        }
        for (int what = 0; what <= 3; what++) {
            int w = what;
            Check.due("P1 acts " + w, 0, () -> x.acts(w));
        }
        Check.due("P1 cursor", 0, () -> x.cursorAt(0));
        Check.due("P1 marks", "", Check.marks(x));
        Check.due("P1 line 0 is shown", 0, () -> Check.bit(x.isHidden(0)));
        Check.due("P1 nothing recorded", 0, () -> x.record(false));
        Check.due("P1 no group", 0, () -> Check.bit(x.group(false)));
        Check.dueThrow("P1 no pattern", IllegalStateException.class, () -> x.find(0, true));
        Check.due("P1 an empty text is kept", 0, x::differences);
        Check.due("P1 all as it was", 1f, x.sameShare());
        Check.due("P1 tab width", 4, () -> x.setTab(4));
        Check.due("P1 view 1", 0, () -> x.setView(1, 0, 10));
        Check.due("P1 empty clip", 0, x::paste);
    }

    private static void promise02() {
        Room x = new Room();
        Check.due("P2 zero puts none", 0, () -> x.feed(0));
        Check.due("P2 highest byte first", 3, () -> x.feed(0x616263L));
        x.type();
        Check.due("P2 letters", "abc", Check.text(x));
        Check.due("P2 zeros between are left out", 6, () -> x.feed(0x7800790000000a00L));
        Check.due("P2 eight letters", 14, () -> x.feed(0x7e20097a7a7a7a7aL));
        Room y = new Room();
        y.feed(0x7800790000000a00L);
        y.feed(0x7e20097a7a7a7a7aL);
        y.type();
        Check.due("P2 letters behind", "xy\n~ \tzzzzz", Check.text(y));
        for (long bad : new long[] {1, 8, 11, 13, 31, 127, 128, 255, -1, 0x6100000000000001L, 0x8061L, Long.MIN_VALUE}) {
            Check.dueThrow("P2 no letter " + bad, IllegalArgumentException.class, () -> x.feed(bad));
        }
        Check.due("P2 refused feeds put none", 14, () -> x.count(5));
        for (int i = 14; i < 198; i++) {
            x.feed('q');
        }
        Check.dueThrow("P2 201 letters", IllegalStateException.class, () -> x.feed(0x616263L));
        Check.dueThrow("P2 a wrong byte comes first", IllegalArgumentException.class, () -> x.feed(0x61626301L));
        Check.due("P2 unchanged", 198, () -> x.count(5));
        Check.due("P2 200 letters", 200, () -> x.feed(0x6162L));
        Check.due("P2 none fits always", 200, () -> x.feed(0));
        Check.dueThrow("P2 full", IllegalStateException.class, () -> x.feed('a'));
    }

    private static void promise03() {
        Room x = new Room();
        Check.due("P3 empty", 0, x::clearTape);
        Check.feed(x, "hello");
        Check.due("P3 length before", 5, x::clearTape);
        Check.due("P3 empty then", 0, () -> x.count(5));
        Check.due("P3 types none", 0, x::type);
        Check.feed(x, "ab");
        x.type();
        Check.due("P3 stays behind type", 2, x::clearTape);
    }

    private static void promise04() {
        Room x = Check.room("one\ntwo");
        Check.due("P4 part", 5, () -> x.copy(2, 7));
        Check.due("P4 letters of the clip", 5, () -> x.count(6));
        Check.due("P4 text stays", "one\ntwo", Check.text(x));
        x.setCursor(0);
        x.paste();
        Check.due("P4 pasted", "e\ntwoone\ntwo", Check.text(x));
        Check.due("P4 empty part", 0, () -> x.copy(3, 3));
        Check.due("P4 empty clip", 0, () -> x.count(6));
        Check.due("P4 all", 12, () -> x.copy(0, 12));
        Check.dueThrow("P4 from below", IndexOutOfBoundsException.class, () -> x.copy(-1, 3));
        Check.dueThrow("P4 to above", IndexOutOfBoundsException.class, () -> x.copy(0, 13));
        Check.dueThrow("P4 from above, to below it", IndexOutOfBoundsException.class, () -> x.copy(13, 2));
        Check.dueThrow("P4 to below 0", IndexOutOfBoundsException.class, () -> x.copy(3, -1));
        Check.dueThrow("P4 turned", IllegalArgumentException.class, () -> x.copy(4, 3));
        Check.due("P4 clip unchanged", 12, () -> x.count(6));
        x.copyBlock(0, 1, 0, 2);
        x.copy(0, 1);
        x.setCursor(12);
        x.paste();
        Check.due("P4 a row again behind a block", "e\ntwoone\ntwoe", Check.text(x));
    }

    private static void promise05() {
        Room x = Check.room("abcdef\nx\n\n\tyz");
        Check.due("P5 letters taken", 5, () -> x.copyBlock(0, 4, 1, 3));
        Check.due("P5 letters of the rows", 12, () -> x.count(6));
        Room y = Check.room("abcdef\nx\n\n\tyz");
        Check.due("P5 rows", 4, () -> y.copyBlock(0, 2, 2, 4));
        y.setCursor(13);
        y.paste();
        Check.due("P5 with blanks", "abcdef\nx\n\n\tyzcdef\n       ", Check.text(y));
        Check.due("P5 far right", 0, () -> x.copyBlock(0, 4, 200, 40));
        Check.due("P5 letters then", 160, () -> x.count(6));
        Check.due("P5 one letter", 1, () -> x.copyBlock(3, 1, 0, 1));
        Check.dueThrow("P5 line below", IndexOutOfBoundsException.class, () -> x.copyBlock(-1, 1, 0, 1));
        Check.dueThrow("P5 line above", IndexOutOfBoundsException.class, () -> x.copyBlock(4, 0, 0, 1));
        Check.dueThrow("P5 fewer lines", IndexOutOfBoundsException.class, () -> x.copyBlock(2, 3, 0, 1));
        Check.dueThrow("P5 far fewer lines", IndexOutOfBoundsException.class, () -> x.copyBlock(3, Integer.MAX_VALUE, -1, 0));
        Check.dueThrow("P5 no lines", IllegalArgumentException.class, () -> x.copyBlock(0, 0, 0, 1));
        Check.dueThrow("P5 lines below", IllegalArgumentException.class, () -> x.copyBlock(3, Integer.MIN_VALUE, 0, 1));
        Check.dueThrow("P5 first below", IllegalArgumentException.class, () -> x.copyBlock(0, 1, -1, 1));
        Check.dueThrow("P5 first above", IllegalArgumentException.class, () -> x.copyBlock(0, 1, 201, 1));
        Check.dueThrow("P5 many below", IllegalArgumentException.class, () -> x.copyBlock(0, 1, 0, 0));
        Check.dueThrow("P5 many above", IllegalArgumentException.class, () -> x.copyBlock(0, 1, 0, 41));
        Check.due("P5 clip unchanged", 1, () -> x.count(6));
    }
}
