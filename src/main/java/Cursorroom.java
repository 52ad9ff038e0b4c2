import java.util.NoSuchElementException;

/**
 * The heart of an editor: a text with many cursors, marks that move, lines that can be hidden,
 * search and replacement, rectangles, steps that are recorded and played, acts that are undone and
 * done again along branches, and a kept text for comparison.
 */
public final class Cursorroom {
    public static final int NONE = -1;
    public static final int LETTERS = 0, LINES = 1, WORDS = 2, ENDS = 3, PARAGRAPHS = 4;

    private static final int MOST_LETTERS = 3000;
    private static final int MOST_LINES = 300;
    private static final int MOST_CURSORS = 8;
    private static final int ALL_MARKS = 16;
    private static final int MOST_ACTS = 150;
    private static final int MOST_TAPE = 200;
    private static final int MOST_PATTERN = 40;
    private static final int MOST_STEPS = 40;
    private static final int MOST_TIMES = 20;
    private static final int MOST_ERASED = 100;
    private static final int MOST_MOVED = 50;
    private static final int MOST_INDENT = 8;
    private static final int MOST_TAB = 8;
    private static final int MOST_WIDTH = 100;
    private static final int MOST_FIRST = 200;
    private static final int MOST_BLOCK_WIDTH = 40;
    private static final int ALL_VIEWS = 2;
    private static final int MOST_HEIGHT = 40;
    private static final int FIRST_HEIGHT = 10;
    private static final int FIRST_TAB = 4;
    private static final int TAB = 9;
    private static final int LINE_END = 10;
    private static final int BLANK = 32;
    private static final int LAST_LETTER = 126;

    private final Sheet sheet = new Sheet();
    private final Row tape = new Row(new byte[MOST_TAPE]);
    private final Clip clip = new Clip();
    private final Change change = new Change();
    private final History history = new History();
    private final Search search = new Search();
    private final Steps steps = new Steps();
    private final Comparison comparison = new Comparison();
    private final int[] viewTops = new int[ALL_VIEWS];
    private final int[] viewHeights = new int[ALL_VIEWS];
    private int tabWidth = FIRST_TAB;

    public Cursorroom() {
        for (int view = 0; view < ALL_VIEWS; view++) {
            viewHeights[view] = FIRST_HEIGHT;
        }
    }

    // ---- the tape and the clip

    public int feed(long letters) throws IllegalArgumentException, IllegalStateException {
        int added = 0;
        boolean areLetters = true;
        for (int shift = 56; shift >= 0; shift -= 8) {
            int code = (int) (letters >>> shift) & 255;
            added += code != 0 ? 1 : 0;
            areLetters = areLetters && (code == 0 || isLetter(code));
        }
        if (!areLetters) {
            throw new IllegalArgumentException("a byte is no letter");
        }
        if (tape.length + added > MOST_TAPE) {
            throw new IllegalStateException("the tape would be too long");
        }
        for (int shift = 56; shift >= 0; shift -= 8) {
            int code = (int) (letters >>> shift) & 255;
            if (code != 0) {
                tape.add(code);
            }
        }
        return tape.length;
    }

    public int clearTape() {
        int length = tape.length;
        tape.length = 0;
        return length;
    }

    public int copy(int from, int to) throws IndexOutOfBoundsException, IllegalArgumentException {
        requirePart(from, to);
        clip.takeLetters(sheet.letters, from, to - from);
        return to - from;
    }

    public int copyBlock(int line, int lines, int first, int many)
            throws IndexOutOfBoundsException, IllegalArgumentException {
        requireLine(line);
        if (lines > sheet.lines - line) {
            throw new IndexOutOfBoundsException("there are fewer lines");
        }
        if (lines < 1 || first < 0 || first > MOST_FIRST || many < 1 || many > MOST_BLOCK_WIDTH) {
            throw new IllegalArgumentException("no such block");
        }
        return clip.takeBlock(sheet, line, lines, first, many);
    }

    // ---- acts

    public int type() throws IllegalStateException {
        planAtCursors(tape.letters, 0, tape.length);
        if (!perform()) {
            throw new IllegalStateException("refused");
        }
        steps.addTyped(tape);
        return sheet.length;
    }

    public int erase(int many) throws IllegalArgumentException, IllegalStateException {
        if (many < -MOST_ERASED || many > MOST_ERASED) {
            throw new IllegalArgumentException("many is out of range");
        }
        int before = sheet.length;
        planErasing(many);
        if (!perform()) {
            throw new IllegalStateException("refused");
        }
        steps.add(Steps.ERASE, 0, many);
        return before - sheet.length;
    }

    public int replace(int from, int to)
            throws IndexOutOfBoundsException, IllegalArgumentException, IllegalStateException {
        requirePart(from, to);
        change.begin(tape.letters, 0, tape.length);
        change.addPart(from, to, tape.length);
        if (!perform()) {
            throw new IllegalStateException("refused");
        }
        return sheet.length;
    }

    public int cut(int from, int to)
            throws IndexOutOfBoundsException, IllegalArgumentException, IllegalStateException {
        requirePart(from, to);
        // A refused act must leave the clip, and one that is not takes the letters away: so the
        // change holds them meanwhile, though no part puts them.
        change.begin(sheet.letters, from, to - from);
        change.addPart(from, to, 0);
        if (!perform()) {
            throw new IllegalStateException("refused");
        }
        clip.takeLetters(change.put.letters, 0, change.put.length);
        return to - from;
    }

    public int paste() throws IllegalStateException {
        planPasting();
        if (!perform()) {
            throw new IllegalStateException("refused");
        }
        steps.add(Steps.PASTE, 0, 0);
        return sheet.length;
    }

    public int indent(int from, int to, int by)
            throws IndexOutOfBoundsException, IllegalArgumentException, IllegalStateException {
        requireLine(from);
        requireLine(to);
        if (from > to || by == 0 || by < -MOST_INDENT || by > MOST_INDENT) {
            throw new IllegalArgumentException("no such range or number");
        }
        change.beginWith(BLANK, Math.max(by, 0));
        for (int line = from; line <= to; line++) {
            indentLine(line, by);
        }
        int changed = change.parts;
        if (!perform()) {
            throw new IllegalStateException("refused");
        }
        return changed;
    }

    public int wrap(int line, int width)
            throws IndexOutOfBoundsException, IllegalArgumentException, IllegalStateException {
        requireLine(line);
        if (width < 1 || width > MOST_WIDTH) {
            throw new IllegalArgumentException("width is out of range");
        }
        change.beginWith(LINE_END, 1);
        int end = sheet.endOf(line);
        int blank = breakFor(sheet.begins[line], end, width);
        for (int times = 0; times < MOST_LETTERS && blank != NONE; times++) {
            change.addPart(blank, blank + 1, 1);
            blank = breakFor(blank + 1, end, width);
        }
        int broken = change.parts;
        if (!perform()) {
            throw new IllegalStateException("refused");
        }
        return broken;
    }

    public int joinLines(int from, int to)
            throws IndexOutOfBoundsException, IllegalArgumentException, IllegalStateException {
        requireLine(from);
        requireLine(to);
        if (from > to) {
            throw new IllegalArgumentException("from is greater than to");
        }
        change.beginWith(BLANK, 1);
        for (int line = from + 1; line <= to; line++) {
            int begin = sheet.begins[line];
            change.addPart(begin - 1, begin + sheet.blanksFrom(begin, MOST_LETTERS), 1);
        }
        if (!perform()) {
            throw new IllegalStateException("refused");
        }
        return sheet.lines;
    }

    public int replaceNext() throws IllegalStateException {
        if (!search.isSet()) {
            throw new IllegalStateException("there is no pattern");
        }
        int place = search.next(sheet, sheet.cursors[0]);
        if (place == NONE) {
            place = search.next(sheet, 0);
        }
        if (place == NONE) {
            return NONE;
        }
        change.begin(tape.letters, 0, tape.length);
        change.addPart(place, place + search.pattern.length, tape.length);
        if (!perform()) {
            throw new IllegalStateException("refused");
        }
        sheet.leaveOneCursor(place + tape.length);
        return place;
    }

    public int replaceAll() throws IllegalStateException {
        if (!search.isSet()) {
            throw new IllegalStateException("there is no pattern");
        }
        change.begin(tape.letters, 0, tape.length);
        int place = search.next(sheet, 0);
        for (int found = 0; found < MOST_LETTERS && place != NONE; found++) {
            int end = place + search.pattern.length;
            change.addPart(place, end, tape.length);
            place = search.next(sheet, end);
        }
        int replaced = change.parts;
        if (!perform()) {
            throw new IllegalStateException("refused");
        }
        return replaced;
    }

    // ---- undoing

    public int undo(int many) throws IllegalArgumentException {
        if (many < 1 || many > MOST_ACTS) {
            throw new IllegalArgumentException("many is out of range");
        }
        history.closeGroup();
        return history.goBack(sheet, many);
    }

    public int redo(int many) throws IllegalArgumentException {
        if (many < 1 || many > MOST_ACTS) {
            throw new IllegalArgumentException("many is out of range");
        }
        history.closeGroup();
        return history.goOn(sheet, many);
    }

    public int branch(int index) throws NoSuchElementException {
        Act act = history.continuation(index);
        if (act == null) {
            throw new NoSuchElementException("there is no such continuation");
        }
        history.closeGroup();
        history.current.chosen = act;
        return history.countContinuations();
    }

    public boolean group(boolean isOpen) {
        boolean was = history.isGroupOpen;
        history.closeGroup();
        history.isGroupOpen = isOpen;
        return was;
    }

    public int acts(int what) throws IllegalArgumentException {
        switch (what) {
            case 0:
                return history.count;
            case 1:
                return history.countBehind();
            case 2:
                return history.countAhead();
            case 3:
                return history.countContinuations();
            default:
                throw new IllegalArgumentException("what is out of range");
        }
    }

    // ---- cursors and marks

    public int setCursor(int place) throws IndexOutOfBoundsException {
        requirePlace(place);
        int were = sheet.cursorCount;
        sheet.leaveOneCursor(place);
        return were;
    }

    public int addCursor(int place) throws IndexOutOfBoundsException, IllegalStateException {
        requirePlace(place);
        if (sheet.hasCursorAt(place)) {
            return sheet.cursorCount;
        }
        if (sheet.cursorCount >= MOST_CURSORS) {
            throw new IllegalStateException("there are 8 cursors");
        }
        sheet.cursors[sheet.cursorCount] = place;
        sheet.cursorCount++;
        sheet.settleCursors();
        return sheet.cursorCount;
    }

    public int moveCursors(int way, int by) throws IllegalArgumentException {
        if (way < LETTERS || way > PARAGRAPHS || by < -MOST_MOVED || by > MOST_MOVED) {
            throw new IllegalArgumentException("way or by is out of range");
        }
        moveAll(way, by);
        steps.add(Steps.MOVE, way, by);
        return sheet.cursorCount;
    }

    public int cursorAt(int cursor) throws IndexOutOfBoundsException {
        if (cursor < 0 || cursor >= sheet.cursorCount) {
            throw new IndexOutOfBoundsException("there is no such cursor");
        }
        return sheet.cursors[cursor];
    }

    public int setMark(int mark, int place, boolean isLeft) throws IndexOutOfBoundsException {
        requireMark(mark);
        requirePlace(place);
        int was = sheet.marks[mark];
        sheet.marks[mark] = place;
        sheet.leansLeft[mark] = isLeft;
        return was;
    }

    public int dropMark(int mark) throws IndexOutOfBoundsException {
        requireMark(mark);
        int was = sheet.marks[mark];
        sheet.marks[mark] = NONE;
        return was;
    }

    public int markAt(int mark) throws IndexOutOfBoundsException {
        requireMark(mark);
        return sheet.marks[mark];
    }

    public int markBeside(int place, boolean isForward) throws IndexOutOfBoundsException {
        requirePlace(place);
        return isForward ? sheet.markFrom(place) : sheet.markUpTo(place);
    }

    // ---- search

    public int setPattern(boolean isWords) throws IllegalStateException {
        if (tape.length == 0 || tape.length > MOST_PATTERN) {
            throw new IllegalStateException("the tape is no pattern");
        }
        search.pattern.become(tape.letters, 0, tape.length);
        search.isWords = isWords;
        return search.countFinds(sheet);
    }

    public int find(int place, boolean isForward)
            throws IndexOutOfBoundsException, IllegalStateException {
        requirePlace(place);
        if (!search.isSet()) {
            throw new IllegalStateException("there is no pattern");
        }
        return isForward ? search.next(sheet, place) : search.before(sheet, place);
    }

    // ---- hidden lines and views

    public int fold(int from, int to)
            throws IndexOutOfBoundsException, IllegalArgumentException, IllegalStateException {
        requireLine(from);
        requireLine(to);
        if (from >= to) {
            throw new IllegalArgumentException("from is not less than to");
        }
        if (sheet.hasCursorInLines(from + 1, to)) {
            throw new IllegalStateException("a cursor is in one of the lines");
        }
        for (int line = from + 1; line <= to; line++) {
            sheet.hidden[line] = true;
        }
        return sheet.countHidden();
    }

    public int unfold(int line) throws IndexOutOfBoundsException {
        requireLine(line);
        return openFold(sheet.hidden, sheet.lines, line);
    }

    public boolean isHidden(int line) throws IndexOutOfBoundsException {
        requireLine(line);
        return sheet.hidden[line];
    }

    public int setView(int view, int top, int height)
            throws IndexOutOfBoundsException, IllegalArgumentException {
        requireView(view);
        if (top < 0 || height < 1 || height > MOST_HEIGHT) {
            throw new IllegalArgumentException("top or height is out of range");
        }
        int was = viewTops[view];
        viewTops[view] = top;
        viewHeights[view] = height;
        return was;
    }

    public int rowOf(int view, int row) throws IndexOutOfBoundsException, IllegalArgumentException {
        requireView(view);
        if (row < 0 || row >= viewHeights[view]) {
            throw new IllegalArgumentException("row is out of range");
        }
        int line = Math.min(viewTops[view], sheet.lines - 1);
        while (line > 0 && sheet.hidden[line]) {
            line--;
        }
        int left = row;
        while (left > 0 && line < sheet.lines) {
            line++;
            if (line < sheet.lines && !sheet.hidden[line]) {
                left--;
            }
        }
        return line < sheet.lines ? line : NONE;
    }

    // ---- recording

    public int record(boolean is) {
        int recorded = steps.count;
        if (is) {
            steps.count = 0;
        }
        steps.isRecording = is;
        return recorded;
    }

    public int play(int times) throws IllegalArgumentException, IllegalStateException {
        if (times < 1 || times > MOST_TIMES) {
            throw new IllegalArgumentException("times is out of range");
        }
        if (steps.isRecording) {
            throw new IllegalStateException("it records");
        }
        boolean isAlone = !history.isGroupOpen;
        history.isGroupOpen = true;
        int played = 0;
        boolean isRefused = false;
        for (int time = 0; time < times && !isRefused; time++) {
            for (int step = 0; step < steps.count && !isRefused; step++) {
                isRefused = !playStep(step);
                played += isRefused ? 0 : 1;
            }
        }
        if (isAlone) {
            history.closeGroup();
        }
        return played;
    }

    // ---- questions about the text

    public int count(int what) throws IllegalArgumentException {
        switch (what) {
            case 0:
                return sheet.length;
            case 1:
                return sheet.lines;
            case 2:
                return sheet.cursorCount;
            case 3:
                return sheet.countMarks();
            case 4:
                return sheet.countHidden();
            case 5:
                return tape.length;
            case 6:
                return clip.letters.length;
            case 7:
                return sheet.countWords();
            default:
                throw new IllegalArgumentException("what is out of range");
        }
    }

    public int letterAt(int place) throws IndexOutOfBoundsException {
        if (place < 0 || place >= sheet.length) {
            throw new IndexOutOfBoundsException("there is no such letter");
        }
        return sheet.letters[place];
    }

    public int lineOf(int place) throws IndexOutOfBoundsException {
        requirePlace(place);
        return sheet.lineWith(place);
    }

    public int columnOf(int place) throws IndexOutOfBoundsException {
        requirePlace(place);
        return sheet.columnWith(place, tabWidth);
    }

    public int placeAt(int line, int column)
            throws IndexOutOfBoundsException, IllegalArgumentException {
        requireLine(line);
        if (column < 0) {
            throw new IllegalArgumentException("column is below 0");
        }
        return sheet.placeWith(line, column, tabWidth);
    }

    public int setTab(int width) throws IllegalArgumentException {
        if (width < 1 || width > MOST_TAB) {
            throw new IllegalArgumentException("width is out of range");
        }
        int was = tabWidth;
        tabWidth = width;
        return was;
    }

    public int hash() {
        return sheet.sumOf(0, sheet.length);
    }

    public double meanLine() {
        int letters = sheet.length - (sheet.lines - 1);
        return (double) letters / (double) sheet.lines;
    }

    // ---- the kept text

    public int keep() {
        comparison.kept.become(sheet);
        return sheet.lines;
    }

    public int differences() {
        int same = comparison.countSame(sheet);
        return comparison.kept.lines + sheet.lines - 2 * same;
    }

    public float sameShare() {
        return (float) comparison.countSame(sheet) / (float) sheet.lines;
    }

    public int errors() {
        history.closeGroup();
        int faults = sheet.hasTrueBegins() ? 0 : 1;
        Sheet before = comparison.scratch;
        before.become(sheet);
        int undone = history.goBack(sheet, MOST_ACTS);
        history.goOn(sheet, undone);
        return faults + sheet.countUnlike(before);
    }

    // ---- what several calls ask for

    private void requirePlace(int place) {
        if (place < 0 || place > sheet.length) {
            throw new IndexOutOfBoundsException("there is no such place");
        }
    }

    private void requirePart(int from, int to) {
        requirePlace(from);
        requirePlace(to);
        if (from > to) {
            throw new IllegalArgumentException("from is greater than to");
        }
    }

    private void requireLine(int line) {
        if (line < 0 || line >= sheet.lines) {
            throw new IndexOutOfBoundsException("there is no such line");
        }
    }

    private void requireMark(int mark) {
        if (mark < 0 || mark >= ALL_MARKS) {
            throw new IndexOutOfBoundsException("there is no such mark");
        }
    }

    private void requireView(int view) {
        if (view < 0 || view >= ALL_VIEWS) {
            throw new IndexOutOfBoundsException("there is no such view");
        }
    }

    // ---- the inside of acts and steps

    /** Does the act whose parts stand in the change; answers false if it is refused. */
    private boolean perform() {
        if (change.parts == 0) {
            return true;
        }
        if (!history.hasRoom() || !change.build(sheet)) {
            return false;
        }
        history.keepAct(sheet);
        change.moveInto(sheet);
        return true;
    }

    private void planAtCursors(byte[] letters, int start, int many) {
        change.begin(letters, start, many);
        for (int cursor = 0; cursor < sheet.cursorCount; cursor++) {
            int place = sheet.cursors[cursor];
            change.addPart(place, place, many);
        }
    }

    private void planErasing(int many) {
        change.begin(tape.letters, 0, 0);
        int end = 0;
        for (int cursor = 0; cursor < sheet.cursorCount; cursor++) {
            int place = sheet.cursors[cursor];
            // What an earlier cursor removes is left out, so that the parts do not overlap.
            int from = Math.max(end, place + Math.min(many, 0));
            end = Math.max(end, Math.min(sheet.length, place + Math.max(many, 0)));
            if (from < end) {
                change.addPart(from, end, 0);
            }
        }
    }

    private void planPasting() {
        if (clip.isBlock) {
            clip.planBlock(sheet, change);
        } else {
            planAtCursors(clip.letters.letters, 0, clip.letters.length);
        }
    }

    private void indentLine(int line, int by) {
        int begin = sheet.begins[line];
        if (by > 0 && sheet.endOf(line) > begin) {
            change.addPart(begin, begin, by);
        }
        if (by < 0) {
            change.addPart(begin, begin + sheet.blanksFrom(begin, -by), 0);
        }
    }

    /** The blank at which wrap() breaks what stands from start to end; NONE if there is none. */
    private int breakFor(int start, int end, int width) {
        if (end - start <= width) {
            return NONE;
        }
        for (int place = start + width; place > start; place--) {
            if (sheet.letters[place] == BLANK) {
                return place;
            }
        }
        for (int place = start + width + 1; place < end; place++) {
            if (sheet.letters[place] == BLANK) {
                return place;
            }
        }
        return NONE;
    }

    private void moveAll(int way, int by) {
        for (int cursor = 0; cursor < sheet.cursorCount; cursor++) {
            sheet.cursors[cursor] = movedPlace(sheet.cursors[cursor], way, by);
        }
        sheet.settleCursors();
    }

    private int movedPlace(int place, int way, int by) {
        if (by == 0) {
            return place;
        }
        switch (way) {
            case LETTERS:
                return Math.max(0, Math.min(sheet.length, place + by));
            case LINES:
                return Walk.overLines(sheet, place, by, tabWidth);
            case WORDS:
                return Walk.overWords(sheet, place, by);
            case ENDS:
                int line = sheet.lineWith(place);
                return by < 0 ? sheet.begins[line] : sheet.endOf(line);
            default:
                return by < 0 ? Walk.paragraphBack(sheet, place, -by)
                        : Walk.paragraphForward(sheet, place, by);
        }
    }

    /** Answers false if the step is refused. */
    private boolean playStep(int step) {
        int by = steps.numbers[step];
        switch (steps.kinds[step]) {
            case Steps.TYPE:
                planAtCursors(steps.letters, step * MOST_TAPE, by);
                return perform();
            case Steps.ERASE:
                planErasing(by);
                return perform();
            case Steps.PASTE:
                planPasting();
                return perform();
            default:
                moveAll(steps.ways[step], by);
                return true;
        }
    }

    // ---- letters and lines

    private static boolean isLetter(int code) {
        return code == TAB || code == LINE_END || code >= BLANK && code <= LAST_LETTER;
    }

    private static boolean isOfWord(int code) {
        return code >= 'a' && code <= 'z' || code >= 'A' && code <= 'Z'
                || code >= '0' && code <= '9' || code == '_';
    }

    private static int columnBehind(int column, int letter, int tab) {
        if (letter != TAB || tab < 1) {
            return column + 1;
        }
        return column + tab - column % tab;
    }

    /** Opens the fold that has a line; answers how many lines it had. */
    private static int openFold(boolean[] hidden, int lines, int line) {
        if (!hidden[line]) {
            return 0;
        }
        int first = line;
        while (first > 0 && hidden[first - 1]) {
            first--;
        }
        int opened = 0;
        for (int next = first; next < lines && hidden[next]; next++) {
            hidden[next] = false;
            opened++;
        }
        return opened;
    }

    /** A row of letters up to a length. */
    private static final class Row {
        final byte[] letters;
        int length;

        Row(byte[] room) {
            letters = room;
        }

        boolean add(int letter) {
            if (length >= letters.length) {
                return false;
            }
            letters[length] = (byte) letter;
            length++;
            return true;
        }

        void become(byte[] other, int start, int many) {
            System.arraycopy(other, start, letters, 0, many);
            length = many;
        }
    }

    /** The text, its lines, the cursors and the marks. */
    private static final class Sheet {
        byte[] letters = new byte[MOST_LETTERS];
        int length = 0;
        int[] begins = new int[MOST_LINES];
        boolean[] hidden = new boolean[MOST_LINES];
        int lines = 1;
        final int[] cursors = new int[MOST_CURSORS];
        int cursorCount = 1;
        final int[] marks = new int[ALL_MARKS];
        final boolean[] leansLeft = new boolean[ALL_MARKS];

        Sheet() {
            for (int mark = 0; mark < ALL_MARKS; mark++) {
                marks[mark] = NONE;
            }
        }

        void become(Sheet other) {
            System.arraycopy(other.letters, 0, letters, 0, other.length);
            System.arraycopy(other.begins, 0, begins, 0, other.lines);
            System.arraycopy(other.hidden, 0, hidden, 0, other.lines);
            System.arraycopy(other.cursors, 0, cursors, 0, other.cursorCount);
            System.arraycopy(other.marks, 0, marks, 0, ALL_MARKS);
            System.arraycopy(other.leansLeft, 0, leansLeft, 0, ALL_MARKS);
            length = other.length;
            lines = other.lines;
            cursorCount = other.cursorCount;
        }

        /** Finds the beginnings of the lines anew. */
        void findLines() {
            begins[0] = 0;
            lines = 1;
            for (int place = 0; place < length && lines < MOST_LINES; place++) {
                if (letters[place] == LINE_END) {
                    begins[lines] = place + 1;
                    lines++;
                }
            }
        }

        int lineWith(int place) {
            int line = 0;
            for (int step = 256; step > 0; step >>= 1) {
                if (line + step < lines && begins[line + step] <= place) {
                    line += step;
                }
            }
            return line;
        }

        int endOf(int line) {
            return line + 1 < lines ? begins[line + 1] - 1 : length;
        }

        int columnWith(int place, int tab) {
            int column = 0;
            for (int at = begins[lineWith(place)]; at < place; at++) {
                column = columnBehind(column, letters[at], tab);
            }
            return column;
        }

        int placeWith(int line, int column, int tab) {
            int end = endOf(line);
            int reached = 0;
            int at = begins[line];
            while (at < end && reached < column) {
                reached = columnBehind(reached, letters[at], tab);
                at++;
            }
            return at;
        }

        /** How many blanks and tabs stand one behind the other from a place on, up to a number. */
        int blanksFrom(int place, int most) {
            int many = 0;
            while (many < most && place + many < length
                    && (letters[place + many] == BLANK || letters[place + many] == TAB)) {
                many++;
            }
            return many;
        }

        boolean isBlankLine(int line) {
            int at = begins[line];
            while (at < length && (letters[at] == BLANK || letters[at] == TAB)) {
                at++;
            }
            return at >= length || letters[at] == LINE_END;
        }

        boolean isParagraph(int line) {
            return !isBlankLine(line) && (line == 0 || isBlankLine(line - 1));
        }

        boolean hasCursorAt(int place) {
            for (int cursor = 0; cursor < cursorCount; cursor++) {
                if (cursors[cursor] == place) {
                    return true;
                }
            }
            return false;
        }

        boolean hasCursorInLines(int from, int to) {
            for (int cursor = 0; cursor < cursorCount; cursor++) {
                int line = lineWith(cursors[cursor]);
                if (line >= from && line <= to) {
                    return true;
                }
            }
            return false;
        }

        void leaveOneCursor(int place) {
            cursors[0] = place;
            cursorCount = 1;
            settleCursors();
        }

        /** Puts the cursors in order, makes one of those at the same place, opens their folds. */
        void settleCursors() {
            sortCursors();
            int kept = 0;
            for (int cursor = 0; cursor < cursorCount; cursor++) {
                if (kept == 0 || cursors[kept - 1] != cursors[cursor]) {
                    cursors[kept] = cursors[cursor];
                    kept++;
                }
            }
            cursorCount = kept;
            for (int cursor = 0; cursor < cursorCount; cursor++) {
                openFold(hidden, lines, lineWith(cursors[cursor]));
            }
        }

        private void sortCursors() {
            for (int cursor = 1; cursor < cursorCount; cursor++) {
                int place = cursors[cursor];
                int at = cursor;
                while (at > 0 && cursors[at - 1] > place) {
                    cursors[at] = cursors[at - 1];
                    at--;
                }
                cursors[at] = place;
            }
        }

        int markFrom(int place) {
            int best = NONE;
            for (int mark = 0; mark < ALL_MARKS; mark++) {
                if (marks[mark] >= place && (best == NONE || marks[mark] < marks[best])) {
                    best = mark;
                }
            }
            return best;
        }

        int markUpTo(int place) {
            int best = NONE;
            for (int mark = 0; mark < ALL_MARKS; mark++) {
                if (marks[mark] != NONE && marks[mark] <= place
                        && (best == NONE || marks[mark] > marks[best])) {
                    best = mark;
                }
            }
            return best;
        }

        int countMarks() {
            int many = 0;
            for (int mark = 0; mark < ALL_MARKS; mark++) {
                many += marks[mark] != NONE ? 1 : 0;
            }
            return many;
        }

        int countHidden() {
            int many = 0;
            for (int line = 0; line < lines; line++) {
                many += hidden[line] ? 1 : 0;
            }
            return many;
        }

        int countWords() {
            int many = 0;
            boolean isInside = false;
            for (int place = 0; place < length; place++) {
                boolean isNext = isOfWord(letters[place]);
                many += isNext && !isInside ? 1 : 0;
                isInside = isNext;
            }
            return many;
        }

        int sumOf(int from, int to) {
            int sum = 0;
            for (int place = from; place < to; place++) {
                sum = 31 * sum + letters[place];
            }
            return sum;
        }

        /** Whether the beginnings of lines are those that the text has. */
        boolean hasTrueBegins() {
            int line = 0;
            boolean isTrue = begins[0] == 0;
            for (int place = 0; place < length; place++) {
                if (letters[place] == LINE_END) {
                    line++;
                    isTrue = isTrue && line < lines && begins[line] == place + 1;
                }
            }
            return isTrue && line + 1 == lines;
        }

        /** How many of text, cursors, marks and hidden lines are other ones than another sheet's. */
        int countUnlike(Sheet other) {
            int unlike = hasTextOf(other) ? 0 : 1;
            unlike += hasCursorsOf(other) ? 0 : 1;
            unlike += hasMarksOf(other) ? 0 : 1;
            unlike += hasHiddenOf(other) ? 0 : 1;
            return unlike;
        }

        private boolean hasTextOf(Sheet other) {
            boolean isSame = length == other.length;
            for (int place = 0; isSame && place < length; place++) {
                isSame = letters[place] == other.letters[place];
            }
            return isSame;
        }

        private boolean hasCursorsOf(Sheet other) {
            boolean isSame = cursorCount == other.cursorCount;
            for (int cursor = 0; isSame && cursor < cursorCount; cursor++) {
                isSame = cursors[cursor] == other.cursors[cursor];
            }
            return isSame;
        }

        private boolean hasMarksOf(Sheet other) {
            boolean isSame = true;
            for (int mark = 0; isSame && mark < ALL_MARKS; mark++) {
                isSame = marks[mark] == other.marks[mark]
                        && leansLeft[mark] == other.leansLeft[mark];
            }
            return isSame;
        }

        private boolean hasHiddenOf(Sheet other) {
            boolean isSame = lines == other.lines;
            for (int line = 0; isSame && line < lines; line++) {
                isSame = hidden[line] == other.hidden[line];
            }
            return isSame;
        }
    }

    /**
     * All that undoing brings back, as it was once. Two of them are there for each act that can be
     * kept, so they take little room: a number holds eight letters or tells of 64 lines.
     */
    private static final class Moment {
        final long[] letters = new long[(MOST_LETTERS + 7) / 8];
        int length = 0;
        final long[] hidden = new long[(MOST_LINES + 63) / 64];
        final int[] cursors = new int[MOST_CURSORS];
        int cursorCount = 0;
        final int[] marks = new int[ALL_MARKS];
        final boolean[] leansLeft = new boolean[ALL_MARKS];

        void take(Sheet sheet) {
            length = sheet.length;
            for (int place = 0; place < length; place++) {
                long others = place % 8 == 0 ? 0 : letters[place / 8];
                letters[place / 8] = others | (long) sheet.letters[place] << (place % 8 * 8);
            }
            for (int line = 0; line < sheet.lines; line++) {
                long others = line % 64 == 0 ? 0 : hidden[line / 64];
                hidden[line / 64] = others | (sheet.hidden[line] ? 1L : 0L) << (line % 64);
            }
            System.arraycopy(sheet.cursors, 0, cursors, 0, MOST_CURSORS);
            System.arraycopy(sheet.marks, 0, marks, 0, ALL_MARKS);
            System.arraycopy(sheet.leansLeft, 0, leansLeft, 0, ALL_MARKS);
            cursorCount = sheet.cursorCount;
        }

        void bringBack(Sheet sheet) {
            for (int place = 0; place < length; place++) {
                sheet.letters[place] = (byte) (letters[place / 8] >>> (place % 8 * 8));
            }
            sheet.length = length;
            sheet.findLines();
            for (int line = 0; line < sheet.lines; line++) {
                sheet.hidden[line] = (hidden[line / 64] >>> (line % 64) & 1) == 1;
            }
            System.arraycopy(cursors, 0, sheet.cursors, 0, MOST_CURSORS);
            System.arraycopy(marks, 0, sheet.marks, 0, ALL_MARKS);
            System.arraycopy(leansLeft, 0, sheet.leansLeft, 0, ALL_MARKS);
            sheet.cursorCount = cursorCount;
        }

        void become(Moment other) {
            System.arraycopy(other.letters, 0, letters, 0, letters.length);
            System.arraycopy(other.hidden, 0, hidden, 0, hidden.length);
            System.arraycopy(other.cursors, 0, cursors, 0, MOST_CURSORS);
            System.arraycopy(other.marks, 0, marks, 0, ALL_MARKS);
            System.arraycopy(other.leansLeft, 0, leansLeft, 0, ALL_MARKS);
            length = other.length;
            cursorCount = other.cursorCount;
        }
    }

    /** The ways of one cursor that take more than a step. */
    private static final class Walk {
        private Walk() {
        }

        static int overLines(Sheet sheet, int place, int by, int tab) {
            int way = by < 0 ? -1 : 1;
            int left = Math.abs(by);
            int line = sheet.lineWith(place);
            int reached = line;
            for (int next = line + way; left > 0 && next >= 0 && next < sheet.lines; next += way) {
                if (!sheet.hidden[next]) {
                    reached = next;
                    left--;
                }
            }
            return sheet.placeWith(reached, sheet.columnWith(place, tab), tab);
        }

        static int overWords(Sheet sheet, int place, int by) {
            int at = place;
            for (int step = 0; step < by; step++) {
                at = wordForward(sheet, at);
            }
            for (int step = 0; step > by; step--) {
                at = wordBack(sheet, at);
            }
            return at;
        }

        private static int wordForward(Sheet sheet, int place) {
            int at = place;
            while (at < sheet.length && !isOfWord(sheet.letters[at])) {
                at++;
            }
            while (at < sheet.length && isOfWord(sheet.letters[at])) {
                at++;
            }
            return at;
        }

        private static int wordBack(Sheet sheet, int place) {
            int at = place;
            while (at > 0 && !isOfWord(sheet.letters[at - 1])) {
                at--;
            }
            while (at > 0 && isOfWord(sheet.letters[at - 1])) {
                at--;
            }
            return at;
        }

        static int paragraphForward(Sheet sheet, int place, int by) {
            int left = by;
            for (int next = sheet.lineWith(place) + 1; next < sheet.lines; next++) {
                left -= sheet.isParagraph(next) ? 1 : 0;
                if (left == 0) {
                    return sheet.begins[next];
                }
            }
            return sheet.length;
        }

        static int paragraphBack(Sheet sheet, int place, int by) {
            int left = by;
            for (int next = sheet.lineWith(place); next >= 0; next--) {
                left -= sheet.begins[next] < place && sheet.isParagraph(next) ? 1 : 0;
                if (left == 0) {
                    return sheet.begins[next];
                }
            }
            return 0;
        }
    }

    /** The clip: a row of letters, or a block, whose rows stand there one behind the other. */
    private static final class Clip {
        final Row letters = new Row(new byte[MOST_LINES * MOST_BLOCK_WIDTH]);
        boolean isBlock = false;
        int rows = 0;
        int width = 0;

        void takeLetters(byte[] other, int start, int many) {
            letters.become(other, start, many);
            isBlock = false;
        }

        /** Answers how many letters the lines had for it. */
        int takeBlock(Sheet sheet, int line, int lines, int first, int many) {
            int taken = 0;
            letters.length = 0;
            for (int next = line; next < line + lines; next++) {
                int end = sheet.endOf(next);
                int begin = sheet.begins[next] + first;
                for (int place = begin; place < begin + many; place++) {
                    letters.add(place < end ? sheet.letters[place] : BLANK);
                    taken += place < end ? 1 : 0;
                }
            }
            isBlock = true;
            rows = lines;
            width = many;
            return taken;
        }

        /** Makes the parts of a change that put the block at the cursor 0. */
        void planBlock(Sheet sheet, Change change) {
            int line = sheet.lineWith(sheet.cursors[0]);
            int number = sheet.cursors[0] - sheet.begins[line];
            change.begin(letters.letters, 0, 0);
            for (int row = 0; row < rows && !change.isTooLong; row++) {
                int lacking = number;
                if (line + row < sheet.lines) {
                    int end = sheet.endOf(line + row);
                    int place = Math.min(end, sheet.begins[line + row] + number);
                    lacking = number - (place - sheet.begins[line + row]);
                    change.openPart(place);
                } else {
                    change.openPart(sheet.length);
                    change.putLetter(LINE_END);
                }
                putRow(change, row, lacking);
            }
        }

        private void putRow(Change change, int row, int lacking) {
            for (int blank = 0; blank < lacking && !change.isTooLong; blank++) {
                change.putLetter(BLANK);
            }
            for (int at = row * width; at < (row + 1) * width && !change.isTooLong; at++) {
                change.putLetter(letters.letters[at]);
            }
        }
    }

    /** The parts of an act by ascending places, and beside the sheet the text that comes of them. */
    private static final class Change {
        final int[] from = new int[MOST_LETTERS];
        final int[] to = new int[MOST_LETTERS];
        final int[] putFrom = new int[MOST_LETTERS];
        final int[] putMany = new int[MOST_LETTERS];
        int parts = 0;
        final Row put = new Row(new byte[MOST_LETTERS]);
        boolean isTooLong = false;
        byte[] newLetters = new byte[MOST_LETTERS];
        int newLength = 0;
        int[] newBegins = new int[MOST_LINES];
        boolean[] newHidden = new boolean[MOST_LINES];
        int newLines = 0;
        final boolean[] stillHidden = new boolean[MOST_LINES];

        /** Begins a change of no parts, with letters that parts can put. */
        void begin(byte[] letters, int start, int many) {
            parts = 0;
            isTooLong = false;
            put.become(letters, start, many);
        }

        void beginWith(int letter, int many) {
            parts = 0;
            isTooLong = false;
            put.length = 0;
            for (int at = 0; at < many; at++) {
                put.add(letter);
            }
        }

        /** Adds a part that is replaced by so many of the letters from the first one on. */
        void addPart(int a, int b, int many) {
            if (a == b && many == 0) {
                return;
            }
            addRange(a, b, 0, many);
        }

        /** Adds a part into which putLetter() puts; what is put at one place is one part. */
        void openPart(int place) {
            if (parts == 0 || from[parts - 1] != place) {
                addRange(place, place, put.length, 0);
            }
        }

        void putLetter(int letter) {
            if (parts == 0 || !put.add(letter)) {
                isTooLong = true;
                return;
            }
            putMany[parts - 1]++;
        }

        private void addRange(int a, int b, int first, int many) {
            if (parts >= MOST_LETTERS) {
                isTooLong = true;
                return;
            }
            from[parts] = a;
            to[parts] = b;
            putFrom[parts] = first;
            putMany[parts] = many;
            parts++;
        }

        /** Builds the new text; answers false, and has changed nothing, if it is refused. */
        boolean build(Sheet sheet) {
            if (isTooLong || sheet.length + growth() > MOST_LETTERS) {
                return false;
            }
            findStillHidden(sheet);
            newLength = 0;
            newLines = 0;
            addLine(0, false);
            int place = 0;
            for (int part = 0; part < parts; part++) {
                takeOver(sheet, place, from[part]);
                putPart(part);
                place = to[part];
            }
            takeOver(sheet, place, sheet.length);
            return newLines <= MOST_LINES;
        }

        private int growth() {
            int growth = 0;
            for (int part = 0; part < parts; part++) {
                growth += putMany[part] - (to[part] - from[part]);
            }
            return growth;
        }

        private void findStillHidden(Sheet sheet) {
            System.arraycopy(sheet.hidden, 0, stillHidden, 0, sheet.lines);
            for (int part = 0; part < parts; part++) {
                int last = sheet.lineWith(to[part]);
                for (int line = sheet.lineWith(from[part]); line <= last; line++) {
                    openFold(stillHidden, sheet.lines, line);
                }
            }
        }

        private void takeOver(Sheet sheet, int a, int b) {
            System.arraycopy(sheet.letters, a, newLetters, newLength, b - a);
            for (int line = sheet.lineWith(a) + 1; line < sheet.lines; line++) {
                if (sheet.begins[line] > b) {
                    break;
                }
                addLine(newLength + sheet.begins[line] - a, stillHidden[line]);
            }
            newLength += b - a;
        }

        private void putPart(int part) {
            int first = putFrom[part];
            for (int at = first; at < first + putMany[part]; at++) {
                newLetters[newLength] = put.letters[at];
                newLength++;
                if (put.letters[at] == LINE_END) {
                    addLine(newLength, false);
                }
            }
        }

        private void addLine(int begin, boolean isHiddenStill) {
            if (newLines < MOST_LINES) {
                newBegins[newLines] = begin;
                newHidden[newLines] = isHiddenStill;
            }
            newLines++;
        }

        /** Gives the sheet the text that was built, and moves its places. */
        void moveInto(Sheet sheet) {
            byte[] oldLetters = sheet.letters;
            int[] oldBegins = sheet.begins;
            boolean[] oldHidden = sheet.hidden;
            sheet.letters = newLetters;
            sheet.begins = newBegins;
            sheet.hidden = newHidden;
            sheet.length = newLength;
            sheet.lines = newLines;
            newLetters = oldLetters;
            newBegins = oldBegins;
            newHidden = oldHidden;
            for (int cursor = 0; cursor < sheet.cursorCount; cursor++) {
                sheet.cursors[cursor] = moved(sheet.cursors[cursor], false);
            }
            for (int mark = 0; mark < ALL_MARKS; mark++) {
                if (sheet.marks[mark] != NONE) {
                    sheet.marks[mark] = moved(sheet.marks[mark], sheet.leansLeft[mark]);
                }
            }
            sheet.settleCursors();
        }

        private int moved(int place, boolean isLeft) {
            int at = place;
            for (int part = parts - 1; part >= 0; part--) {
                int a = from[part];
                int b = to[part];
                if (at == b) {
                    at = isLeft ? a : a + putMany[part];
                } else if (at > b) {
                    at += putMany[part] - (b - a);
                } else if (at > a) {
                    at = a;
                }
            }
            return at;
        }
    }

    /** An act that is kept, or the beginning, behind which the first ones were done. */
    private static final class Act {
        Act parent = null;
        Act chosen = null;
        final Moment before = new Moment();
        final Moment behind = new Moment();
    }

    /**
     * The tree of the acts, in the order in which they were done first. On the way from the beginning
     * to the current act each one has the next one as its chosen continuation.
     */
    private static final class History {
        final Act[] all = new Act[MOST_ACTS];
        int count = 0;
        Act current = new Act();
        boolean isGroupOpen = false;
        boolean isGroupKept = false;

        /** Makes all acts that can ever be kept, so that no call makes any. */
        History() {
            for (int at = 0; at < MOST_ACTS; at++) {
                all[at] = new Act();
            }
        }

        void closeGroup() {
            isGroupOpen = false;
            isGroupKept = false;
        }

        boolean hasRoom() {
            return isGroupKept || count < MOST_ACTS;
        }

        /** Keeps an act that is about to be done, unless it is part of one that is kept. */
        void keepAct(Sheet sheet) {
            Act act = count < MOST_ACTS ? all[count] : null;
            if (isGroupKept || act == null) {
                return;
            }
            act.before.take(sheet);
            act.parent = current;
            current.chosen = act;
            current = act;
            count++;
            isGroupKept = isGroupOpen;
        }

        int goBack(Sheet sheet, int many) {
            int undone = 0;
            current.behind.take(sheet);
            Act parent = current.parent;
            while (undone < many && parent != null) {
                // What was ahead of an act comes back with its undoing: it is what the act ahead of
                // it, now the current one, leaves if that is undone as well.
                parent.behind.become(current.before);
                current = parent;
                parent = current.parent;
                undone++;
            }
            current.behind.bringBack(sheet);
            return undone;
        }

        int goOn(Sheet sheet, int many) {
            int redone = 0;
            Act next = current.chosen;
            while (redone < many && next != null) {
                current = next;
                next = current.chosen;
                redone++;
            }
            if (redone > 0) {
                current.behind.bringBack(sheet);
            }
            return redone;
        }

        int countBehind() {
            int many = 0;
            for (Act act = current.parent; act != null; act = act.parent) {
                many++;
            }
            return many;
        }

        int countAhead() {
            int many = 0;
            for (Act act = current.chosen; act != null; act = act.chosen) {
                many++;
            }
            return many;
        }

        int countContinuations() {
            int many = 0;
            for (int at = 0; at < count; at++) {
                many += all[at] != null && all[at].parent == current ? 1 : 0;
            }
            return many;
        }

        /** The continuation with a number; null if there is none. */
        Act continuation(int index) {
            int number = 0;
            for (int at = 0; at < count; at++) {
                Act act = all[at];
                if (act != null && act.parent == current) {
                    if (number == index) {
                        return act;
                    }
                    number++;
                }
            }
            return null;
        }
    }

    /** The pattern and its finds; a pattern of no letters is none. */
    private static final class Search {
        final Row pattern = new Row(new byte[MOST_PATTERN]);
        boolean isWords = false;

        boolean isSet() {
            return pattern.length > 0;
        }

        int next(Sheet sheet, int place) {
            for (int at = place; at <= sheet.length - pattern.length; at++) {
                if (isFind(sheet, at)) {
                    return at;
                }
            }
            return NONE;
        }

        int before(Sheet sheet, int place) {
            for (int at = Math.min(place - 1, sheet.length - pattern.length); at >= 0; at--) {
                if (isFind(sheet, at)) {
                    return at;
                }
            }
            return NONE;
        }

        int countFinds(Sheet sheet) {
            int many = 0;
            for (int at = 0; at <= sheet.length - pattern.length; at++) {
                many += isFind(sheet, at) ? 1 : 0;
            }
            return many;
        }

        /** Only for places behind which there are as many letters as the pattern has. */
        private boolean isFind(Sheet sheet, int place) {
            for (int at = 0; at < pattern.length; at++) {
                if (sheet.letters[place + at] != pattern.letters[at]) {
                    return false;
                }
            }
            if (!isWords) {
                return true;
            }
            int end = place + pattern.length;
            boolean isPart = place > 0 && isOfWord(sheet.letters[place - 1]);
            return !isPart && (end >= sheet.length || !isOfWord(sheet.letters[end]));
        }
    }

    /** The recorded steps; a step that types has a row of its own, as long as a tape can be. */
    private static final class Steps {
        static final int TYPE = 0, ERASE = 1, MOVE = 2, PASTE = 3;

        final int[] kinds = new int[MOST_STEPS];
        final int[] ways = new int[MOST_STEPS];
        final int[] numbers = new int[MOST_STEPS];
        final byte[] letters = new byte[MOST_STEPS * MOST_TAPE];
        int count = 0;
        boolean isRecording = false;

        void add(int kind, int way, int number) {
            if (!isRecording || count >= MOST_STEPS) {
                return;
            }
            kinds[count] = kind;
            ways[count] = way;
            numbers[count] = number;
            count++;
        }

        void addTyped(Row tape) {
            if (isRecording && count < MOST_STEPS) {
                System.arraycopy(tape.letters, 0, letters, count * MOST_TAPE, tape.length);
            }
            add(TYPE, 0, tape.length);
        }
    }

    /** The kept text, and how many lines of another one are still those of it. */
    private static final class Comparison {
        final Sheet kept = new Sheet();
        final Sheet scratch = new Sheet();
        final int[] keptSums = new int[MOST_LINES];
        final int[] sums = new int[MOST_LINES];
        final int[] longest = new int[MOST_LINES + 1];

        /** The length of the longest row of lines that both texts have in the same order. */
        int countSame(Sheet sheet) {
            fillSums(kept, keptSums);
            fillSums(sheet, sums);
            for (int line = 0; line <= sheet.lines; line++) {
                longest[line] = 0;
            }
            for (int old = 0; old < kept.lines; old++) {
                int corner = 0;
                for (int line = 0; line < sheet.lines; line++) {
                    int above = longest[line + 1];
                    if (isSame(old, sheet, line)) {
                        longest[line + 1] = corner + 1;
                    } else {
                        longest[line + 1] = Math.max(above, longest[line]);
                    }
                    corner = above;
                }
            }
            return longest[sheet.lines];
        }

        private static void fillSums(Sheet sheet, int[] sums) {
            for (int line = 0; line < sheet.lines; line++) {
                sums[line] = sheet.sumOf(sheet.begins[line], sheet.endOf(line));
            }
        }

        private boolean isSame(int old, Sheet sheet, int line) {
            if (keptSums[old] != sums[line]) {
                return false;
            }
            int oldBegin = kept.begins[old];
            int begin = sheet.begins[line];
            int many = sheet.endOf(line) - begin;
            boolean isSame = kept.endOf(old) - oldBegin == many;
            for (int at = 0; isSame && at < many; at++) {
                isSame = kept.letters[oldBegin + at] == sheet.letters[begin + at];
            }
            return isSame;
        }
    }
}
