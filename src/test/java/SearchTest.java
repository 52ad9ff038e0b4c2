/** Promises 29 and 30: the pattern and its finds. */
final class SearchTest {
    private SearchTest() {
    }

    static void run() {
        promise29();
        promise30();
    }

    private static int finds(String text, String pattern, boolean isWords) {
        Room x = Check.room(text);
        Check.tape(x, pattern);
        return x.setPattern(isWords);
    }

    private static void promise29() {
        Check.due("P29 that overlap", 3, () -> finds("aaaa", "aa", false));
        Check.due("P29 none", 0, () -> finds("aaaa", "b", false));
        Check.due("P29 longer than the text", 0, () -> finds("a", "aa", false));
        Check.due("P29 the whole text", 1, () -> finds("a b", "a b", true));
        Check.due("P29 over lines", 1, () -> finds("a\nb\n", "a\nb", false));
        Check.due("P29 whole words", 2, () -> finds("cat cats cat, _cat 1cat", "cat", true));
        Check.due("P29 parts of words", 5, () -> finds("cat cats cat, _cat 1cat", "cat", false));
        Check.due("P29 signs between letters", 1, () -> finds("a-b -", "-", true));
        Check.due("P29 large and small letters", 1, () -> finds("Ab ab AB", "ab", false));
        Check.due("P29 overlapping whole words", 2, () -> finds("a a a", "a a", true));
        Room x = Check.room("a".repeat(50));
        Check.dueThrow("P29 empty tape", IllegalStateException.class, () -> x.setPattern(false));
        Check.tape(x, "a".repeat(40));
        Check.due("P29 40 letters", 11, () -> x.setPattern(false));
        Check.feed(x, "a");
        Check.dueThrow("P29 41 letters", IllegalStateException.class, () -> x.setPattern(false));
        Check.due("P29 the pattern stays", 10, () -> x.find(11, false));
        Check.tape(x, "b");
        Check.due("P29 the pattern is its own row", 0, () -> x.find(0, true));
    }

    private static void promise30() {
        Room x = Check.room("ab ab abc");
        Check.dueThrow("P30 no pattern", IllegalStateException.class, () -> x.find(0, true));
        Check.dueThrow("P30 place first", IndexOutOfBoundsException.class, () -> x.find(10, true));
        Check.tape(x, "ab");
        x.setPattern(false);
        Check.due("P30 at the place", 3, () -> x.find(3, true));
        Check.due("P30 behind it", 6, () -> x.find(4, true));
        Check.due("P30 none behind", -1, () -> x.find(7, true));
        Check.due("P30 back: less", 0, () -> x.find(3, false));
        Check.due("P30 back: greatest", 3, () -> x.find(6, false));
        Check.due("P30 back: one that reaches over the place", 6, () -> x.find(7, false));
        Check.due("P30 back from the end", 6, () -> x.find(9, false));
        Check.due("P30 none ahead", -1, () -> x.find(0, false));
        Check.due("P30 from the end", -1, () -> x.find(9, true));
        x.setPattern(true);
        Check.due("P30 whole words", -1, () -> x.find(4, true));
        Check.due("P30 whole words back", 3, () -> x.find(9, false));
        Check.dueThrow("P30 below", IndexOutOfBoundsException.class, () -> x.find(-1, true));
        x.replace(0, 9);
        x.clearTape();
        x.replace(0, 2);
        Check.due("P30 empty text", -1, () -> x.find(0, false));
    }
}
