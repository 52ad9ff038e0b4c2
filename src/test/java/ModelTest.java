import java.util.Arrays;

/**
 * Long runs of calls, the same ones on the class and on the model: each answer must be the same, and behind some of
 * the calls all that can be asked. No object is asked behind its 512th call; so each run is made several times, up
 * to other calls, and asked there.
 */
final class ModelTest {
    private static final String[] WORDS = {
        "a", "b", "ab", "aba", " ", "  ", "\t", "\n", "\n\n", "a b", " a", "b\n", "\n a", "x_1", "-", "a\tb", " \n", "ab cd ef"};

    // For each kind of run: of 100 calls, how many are acts, undoing, cursors and marks, tape and clip, added up.
    private static final int[][] WEIGHTS = {
        {42, 50, 70, 80}, {42, 50, 70, 80}, {25, 65, 75, 80}, {42, 50, 70, 80}, {25, 35, 50, 60}, {25, 35, 70, 80},
        {42, 50, 70, 80}};
    private static final int KINDS = WEIGHTS.length;
    // Of long tapes, near the bounds of the text; and of a text that is almost full at first.
    private static final int LONG = 3;
    private static final int FULL = 6;

    // So many calls of a run go ahead of the questions, at least, and from one time that it is made to the next.
    private static final int FIRST_STOP = 12;
    private static final int STOPS = 7;
    private static final int CALLS_BETWEEN = 60;

    private final Room x = new Room();
    private final Model m = new Model();
    private final StringBuilder log = new StringBuilder();
    private final int kind;
    private long seed;

    private ModelTest(long seed) {
        this.seed = seed * 7919 + 13;
        this.kind = (int) (seed % KINDS);
        if (kind == FULL) {
            fillUp();
        }
    }

    static void run(int runs) {
        int good = 0;
        for (int run = 0; run < runs; run++) {
            boolean isGood = isGood(run, Room.MOST_CALLS, false);
            for (int stop = 0; stop < STOPS && isGood; stop++) {
                isGood = isGood(run, FIRST_STOP + run * 7 % CALLS_BETWEEN + stop * CALLS_BETWEEN, true);
            }
            good += isGood ? 1 : 0;
        }
        Check.due("runs in which the class answers as the model", runs, good);
    }

    private static boolean isGood(int run, int calls, boolean isAsked) {
        ModelTest test = new ModelTest(run);
        String fault = test.runCalls(calls);
        fault = fault != null || !isAsked ? fault : test.unlike();
        if (fault != null) {
            String log = test.log.toString();
            System.out.println("run " + run + " " + log.substring(Math.max(0, log.length() - 1500)) + "\n" + fault);
        }
        return fault == null;
    }

    /** 2990 letters in 300 lines: a tape of 190 letters, and 14 times one of 200. */
    private void fillUp() {
        String line = "ab cd e\n\tf";
        for (int at = 0; at < 190; at += 10) {
            feedBoth(line);
        }
        x.type();
        m.type();
        feedBoth(line);
        for (int act = 0; act < 14; act++) {
            x.type();
            m.type();
        }
        x.clearTape();
        m.clearTape();
    }

    private void feedBoth(String letters) {
        for (int at = 0; at < letters.length(); at += 8) {
            long number = 0;
            for (char letter : letters.substring(at, Math.min(letters.length(), at + 8)).toCharArray()) {
                number = number << 8 | letter;
            }
            x.feed(number);
            m.feed(number);
        }
    }

    private int below(int bound) {
        seed = seed * 6364136223846793005L + 1442695040888963407L;
        return (int) ((seed >>> 33) % bound);
    }

    private boolean chance(int of) {
        return below(of) == 0;
    }

    private int place() {
        if (chance(40)) {
            return below(3) - 2 + below(2) * (m.now.text.length() + 3);
        }
        return below(m.now.text.length() + 1);
    }

    private int line() {
        if (chance(40)) {
            return below(2) == 0 ? -1 : m.lines().length;
        }
        return below(m.lines().length);
    }

    private String runCalls(int calls) {
        while (x.calls() < calls) {
            String fault = step();
            if (fault != null) {
                return "call " + x.calls() + ": " + fault;
            }
        }
        return null;
    }

    private String both(String name, java.util.function.LongSupplier one, java.util.function.LongSupplier other) {
        log.append(name).append('\n');
        String got = Check.outcome(one);
        String want = Check.outcome(other);
        return got.equals(want) ? null : name + " answered " + got + ", due is " + want;
    }

    private long letters() {
        if (chance(60)) {
            return chance(2) ? -1L : 0x6100000062000000L + below(300);
        }
        String all = "";
        int words = kind == LONG ? 8 : 1 + below(3);
        for (int i = 0; i < words; i++) {
            all += WORDS[below(WORDS.length)];
        }
        long number = 0;
        for (char c : all.substring(0, Math.min(8, all.length())).toCharArray()) {
            number = number << 8 | c;
        }
        return number;
    }

    private int[] partOf() {
        int a = place();
        int b = chance(3) ? place() : Math.min(a + below(12), m.now.text.length());
        return a <= b || chance(20) ? new int[] {a, b} : new int[] {b, a};
    }

    private int wild() {
        int[] all = {Integer.MIN_VALUE, Integer.MIN_VALUE + 1, Integer.MAX_VALUE - 1, Integer.MAX_VALUE,
            -1000000, -1, 0, 1, 16, 300, 3000, 3001, 1000000};
        return all[below(all.length)];
    }

    /** Calls with numbers far out of range. */
    private String stepWild() {
        int a = wild();
        int b = chance(2) ? wild() : below(3);
        int c = chance(2) ? wild() : 1 + below(3);
        int d = chance(2) ? wild() : 1 + below(3);
        boolean is = chance(2);
        String row = "(" + a + ", " + b + ", " + c + ", " + d + ")";
        switch (below(20)) {
            case 0: return both("copy" + row, () -> x.copy(b, a), () -> m.copy(b, a));
            case 1: return both("copyBlock" + row, () -> x.copyBlock(b, a, c, d), () -> m.copyBlock(b, a, c, d));
            case 2: return both("erase" + row, () -> x.erase(a), () -> m.erase(a));
            case 3: return both("replace" + row, () -> x.replace(b, a), () -> m.replace(b, a));
            case 4: return both("cut" + row, () -> x.cut(b, a), () -> m.cut(b, a));
            case 5: return both("indent" + row, () -> x.indent(b, c, a), () -> m.indent(b, c, a));
            case 6: return both("wrap" + row, () -> x.wrap(b, a), () -> m.wrap(b, a));
            case 7: return both("joinLines" + row, () -> x.joinLines(b, a), () -> m.joinLines(b, a));
            case 8: return both("undo" + row, () -> x.undo(a), () -> m.undo(a));
            case 9: return both("branch" + row, () -> x.branch(a), () -> m.branch(a));
            case 10: return both("setCursor" + row, () -> x.setCursor(a), () -> m.setCursor(a));
            case 11: return both("moveCursors" + row, () -> x.moveCursors(b, a), () -> m.moveCursors(b, a));
            case 12: return both("setMark" + row, () -> x.setMark(b, a, is), () -> m.setMark(b, a, is));
            case 13: return both("find" + row, () -> x.find(a, is), () -> m.find(a, is));
            case 14: return both("fold" + row, () -> x.fold(b, a), () -> m.fold(b, a));
            case 15: return both("setView" + row, () -> x.setView(b, a, c), () -> m.setView(b, a, c));
            case 16: return both("rowOf" + row, () -> x.rowOf(b, a), () -> m.rowOf(b, a));
            case 17: return both("placeAt" + row, () -> x.placeAt(b, a), () -> m.placeAt(b, a));
            case 18: return both("play" + row, () -> x.play(a), () -> m.play(a));
            default: return both("unfold" + row, () -> x.unfold(a), () -> m.unfold(a));
        }
    }

    private String step() {
        if (chance(50)) {
            return stepWild();
        }
        int[] parts = WEIGHTS[kind];
        int choice = below(100);
        if (choice < parts[0]) {
            return stepActs();
        }
        if (choice < parts[1]) {
            return stepUndo();
        }
        if (choice < parts[2]) {
            return stepCursors();
        }
        if (choice < parts[3]) {
            return stepTape();
        }
        return stepRest();
    }

    private String stepTape() {
        int choice = below(6);
        long a = letters();
        if (choice == 0 && kind != LONG) {
            return both("clearTape()", x::clearTape, m::clearTape);
        }
        if (choice == 1) {
            boolean words = chance(3);
            return both("setPattern(" + words + ")", () -> x.setPattern(words), () -> m.setPattern(words));
        }
        if (choice == 2) {
            int[] p = partOf();
            return both("copy" + Arrays.toString(p), () -> x.copy(p[0], p[1]), () -> m.copy(p[0], p[1]));
        }
        if (choice == 3) {
            int line = line();
            int lines = chance(30) ? below(3) - 1 : 1 + below(Math.max(1, Math.min(6, m.lines().length - line)));
            int first = chance(30) ? below(2) * 202 - 1 : below(8);
            int many = chance(30) ? below(2) * 41 : 1 + below(kind == LONG ? 40 : 6);
            return both("copyBlock(" + line + ", " + lines + ", " + first + ", " + many + ")",
                    () -> x.copyBlock(line, lines, first, many), () -> m.copyBlock(line, lines, first, many));
        }
        return both("feed(" + a + ")", () -> x.feed(a), () -> m.feed(a));
    }

    private String stepActs() {
        int[] p = partOf();
        int line = line();
        int other = Math.min(line + below(4), m.lines().length - 1);
        switch (below(kind == 1 ? 6 : 13)) {
            case 0: case 1:
                return both("type()", x::type, m::type);
            case 2:
                int many = chance(40) ? below(2) * 202 - 101 : below(kind == LONG ? 9 : 21) - 10;
                return both("erase(" + many + ")", () -> x.erase(many), () -> m.erase(many));
            case 3: case 4:
                return both("replace" + Arrays.toString(p), () -> x.replace(p[0], p[1]), () -> m.replace(p[0], p[1]));
            case 5:
                return both("cut" + Arrays.toString(p), () -> x.cut(p[0], p[1]), () -> m.cut(p[0], p[1]));
            case 6: case 7:
                return both("paste()", x::paste, m::paste);
            case 8:
                int by = chance(30) ? below(3) * 9 - 9 : below(17) - 8;
                return both("indent(" + line + ", " + other + ", " + by + ")",
                        () -> x.indent(line, other, by), () -> m.indent(line, other, by));
            case 9:
                int width = chance(30) ? below(2) * 101 : 1 + below(12);
                return both("wrap(" + line + ", " + width + ")", () -> x.wrap(line, width), () -> m.wrap(line, width));
            case 10:
                return both("joinLines(" + line + ", " + other + ")",
                        () -> x.joinLines(line, other), () -> m.joinLines(line, other));
            case 11:
                return both("replaceNext()", x::replaceNext, m::replaceNext);
            default:
                return both("replaceAll()", x::replaceAll, m::replaceAll);
        }
    }

    private String stepUndo() {
        int many = chance(20) ? below(2) * 151 : 1 + below(chance(3) ? 20 : 3);
        int index = below(4) - (chance(10) ? 1 : 0);
        boolean is = chance(2);
        switch (below(kind == 2 ? 12 : 5)) {
            case 0: case 5: case 8: case 9:
                return both("undo(" + many + ")", () -> x.undo(many), () -> m.undo(many));
            case 1: case 6: case 10:
                return both("redo(" + many + ")", () -> x.redo(many), () -> m.redo(many));
            case 2: case 7: case 11:
                return both("branch(" + index + ")", () -> x.branch(index), () -> m.branch(index));
            case 3:
                return both("group(" + is + ")", () -> Check.bit(x.group(is)), () -> Check.bit(m.group(is)));
            default:
                return both("errors()", x::errors, m::errors);
        }
    }

    private String stepCursors() {
        int place = place();
        int mark = chance(30) ? below(2) * 17 - 1 : below(16);
        int way = chance(40) ? below(2) * 6 - 1 : below(5);
        int by = chance(40) ? below(2) * 102 - 51 : below(chance(4) ? 101 : 9) - (chance(4) ? 50 : 4);
        int moved = Math.max(-51, Math.min(51, by));
        boolean is = chance(2);
        switch (below(10)) {
            case 0:
                return both("setCursor(" + place + ")", () -> x.setCursor(place), () -> m.setCursor(place));
            case 1: case 2: case 3:
                return both("addCursor(" + place + ")", () -> x.addCursor(place), () -> m.addCursor(place));
            case 4: case 5: case 6:
                return both("moveCursors(" + way + ", " + moved + ")",
                        () -> x.moveCursors(way, moved), () -> m.moveCursors(way, moved));
            case 7: case 8:
                return both("setMark(" + mark + ", " + place + ", " + is + ")",
                        () -> x.setMark(mark, place, is), () -> m.setMark(mark, place, is));
            default:
                return both("dropMark(" + mark + ")", () -> x.dropMark(mark), () -> m.dropMark(mark));
        }
    }

    private String stepRest() {
        int line = line();
        int other = Math.min(line + below(5), m.lines().length - 1);
        int place = place();
        int view = chance(30) ? below(2) * 3 - 1 : below(2);
        int number = below(14) - (chance(10) ? 5 : 0);
        int times = chance(20) ? below(2) * 21 : 1 + below(chance(5) ? 20 : 3);
        boolean is = chance(kind == 4 ? 6 : 2);
        switch (below(16)) {
            case 0: case 1: case 2: case 3: case 4:
                return both("fold(" + line + ", " + other + ")", () -> x.fold(line, other), () -> m.fold(line, other));
            case 5:
                int folded = m.now.hidden.indexOf(true);
                int opened = folded < 0 || chance(2) ? line : folded;
                return both("unfold(" + opened + ")", () -> x.unfold(opened), () -> m.unfold(opened));
            case 6:
                return both("setView(" + view + ", " + number + ", " + number * 3 + ")",
                        () -> x.setView(view, number, number * 3), () -> m.setView(view, number, number * 3));
            case 7: case 8:
                return both("record(" + is + ")", () -> x.record(is), () -> m.record(is));
            case 9: case 10:
                return both("play(" + times + ")", () -> x.play(times), () -> m.play(times));
            case 11:
                return both("setTab(" + number + ")", () -> x.setTab(number), () -> m.setTab(number));
            case 12:
                return both("keep()", x::keep, m::keep);
            case 13:
                return both("placeAt(" + line + ", " + number + ")",
                        () -> x.placeAt(line, number), () -> m.placeAt(line, number));
            case 14:
                return both("columnOf(" + place + ")", () -> x.columnOf(place), () -> m.columnOf(place));
            default:
                return both("lineOf(" + place + ")", () -> x.lineOf(place), () -> m.lineOf(place));
        }
    }

    /** Compares what can be seen of the two. */
    private String unlike() {
        int place = place();
        int view = below(2);
        int row = below(12);
        boolean is = chance(2);
        String fault = null;
        for (int what = -1; what <= 8 && fault == null; what++) {
            int w = what;
            fault = both("count(" + w + ")", () -> x.count(w), () -> m.count(w));
        }
        for (int what = -1; what <= 4 && fault == null; what++) {
            int w = what;
            fault = both("acts(" + w + ")", () -> x.acts(w), () -> m.acts(w));
        }
        for (int what = -1; what <= 16 && fault == null; what++) {
            int w = what;
            fault = both("markAt(" + w + ")", () -> x.markAt(w), () -> m.markAt(w));
        }
        for (int what = -1; what <= 8 && fault == null; what++) {
            int w = what;
            fault = both("cursorAt(" + w + ")", () -> x.cursorAt(w), () -> m.cursorAt(w));
        }
        fault = fault != null ? fault : both("hash()", x::hash, m::hash);
        fault = fault != null ? fault : both("markBeside(" + place + ", " + is + ")",
                () -> x.markBeside(place, is), () -> m.markBeside(place, is));
        fault = fault != null ? fault : both("find(" + place + ", " + is + ")",
                () -> x.find(place, is), () -> m.find(place, is));
        fault = fault != null ? fault : both("rowOf(" + view + ", " + row + ")",
                () -> x.rowOf(view, row), () -> m.rowOf(view, row));
        fault = fault != null ? fault : both("letterAt(" + place + ")", () -> x.letterAt(place), () -> m.letterAt(place));
        if (fault == null) {
            fault = both("differences()", x::differences, m::differences);
            fault = fault != null ? fault : both("sameShare()",
                    () -> Float.floatToIntBits(x.sameShare()), () -> Float.floatToIntBits(m.sameShare()));
            fault = fault != null ? fault : both("meanLine()",
                    () -> Double.doubleToLongBits(x.meanLine()), () -> Double.doubleToLongBits(m.meanLine()));
        }
        for (int what = -1; what <= m.lines().length && x.calls() < Room.MOST_CALLS && fault == null; what++) {
            int w = what;
            fault = both("isHidden(" + w + ")", () -> Check.bit(x.isHidden(w)), () -> Check.bit(m.isHidden(w)));
        }
        return fault;
    }

    public static void main(String[] args) {
        run(args.length > 0 ? Integer.parseInt(args[0]) : 100);
        System.out.println(Check.passed + " passed, " + Check.failed + " failed");
    }
}
