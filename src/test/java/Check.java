import java.util.function.LongSupplier;

/** Counts what is as it is due, and prints what is not. */
final class Check {
    static int passed = 0;
    static int failed = 0;

    private Check() {
    }

    static void due(String what, Object want, Object got) {
        if (want.equals(got)) {
            passed++;
        } else {
            failed++;
            System.out.println("FAILED " + what + ": answered " + got + ", due is " + want);
        }
    }

    static void due(String what, long want, LongSupplier call) {
        due(what, (Object) ("" + want), outcome(call));
    }

    static void dueThrow(String what, Class<? extends RuntimeException> want, LongSupplier call) {
        due(what, (Object) ("throws." + want.getSimpleName()), outcome(call));
    }

    /** The answer of a call as a text, or throws. and the name of what it throws. */
    static String outcome(LongSupplier call) {
        try {
            return "" + call.getAsLong();
        } catch (RuntimeException e) {
            return "throws." + e.getClass().getSimpleName();
        }
    }

    static long bit(boolean is) {
        return is ? 1 : 0;
    }

    // ---- what many tests do with a room

    static void feed(Room x, String letters) {
        for (int at = 0; at < letters.length(); at += 8) {
            long number = 0;
            for (int i = at; i < Math.min(letters.length(), at + 8); i++) {
                number = number << 8 | letters.charAt(i);
            }
            x.feed(number);
        }
    }

    /** Makes the tape these letters. */
    static void tape(Room x, String letters) {
        x.clearTape();
        feed(x, letters);
    }

    /** A room with this text, its cursor at the beginning, and the empty tape; one act for every 200 letters. */
    static Room room(String text) {
        Room x = new Room();
        String last = "";
        for (int at = 0; at < text.length(); at += 200) {
            String next = text.substring(at, Math.min(text.length(), at + 200));
            if (!next.equals(last)) {
                tape(x, next);
            }
            last = next;
            x.type();
        }
        x.clearTape();
        x.setCursor(0);
        return x;
    }

    static String text(Room x) {
        StringBuilder all = new StringBuilder();
        for (int place = 0; place < x.count(0); place++) {
            all.append((char) x.letterAt(place));
        }
        return all.toString();
    }

    static String cursors(Room x) {
        StringBuilder all = new StringBuilder();
        for (int cursor = 0; cursor < x.count(2); cursor++) {
            all.append(cursor == 0 ? "" : " ").append(x.cursorAt(cursor));
        }
        return all.toString();
    }

    static void cursors(Room x, int... places) {
        x.setCursor(places[0]);
        for (int place : places) {
            x.addCursor(place);
        }
    }

    /** The marks that are set, as number:place. */
    static String marks(Room x) {
        StringBuilder all = new StringBuilder();
        for (int mark = 0; mark < 16; mark++) {
            int place = x.markAt(mark);
            if (place != Cursorroom.NONE) {
                all.append(all.length() == 0 ? "" : " ").append(mark).append(':').append(place);
            }
        }
        return all.toString();
    }

    /** The lines that are hidden. */
    static String hidden(Room x) {
        StringBuilder all = new StringBuilder();
        for (int line = 0; line < x.count(1); line++) {
            if (x.isHidden(line)) {
                all.append(all.length() == 0 ? "" : " ").append(line);
            }
        }
        return all.toString();
    }
}
