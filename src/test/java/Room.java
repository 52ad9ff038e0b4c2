/** A room that counts its calls: behind the 512th the document promises nothing, so that no test may ask there. */
final class Room {
    static final int MOST_CALLS = 512;

    final Cursorroom inside = new Cursorroom();
    private int calls = 0;

    private Cursorroom call() {
        calls++;
        if (calls > MOST_CALLS) {
            throw new AssertionError("a test makes more than " + MOST_CALLS + " calls of one room");
        }
        return inside;
    }

    int calls() {
        return calls;
    }

    int feed(long letters) {
        return call().feed(letters);
    }

    int clearTape() {
        return call().clearTape();
    }

    int copy(int from, int to) {
        return call().copy(from, to);
    }

    int copyBlock(int line, int lines, int first, int many) {
        return call().copyBlock(line, lines, first, many);
    }

    int type() {
        return call().type();
    }

    int erase(int many) {
        return call().erase(many);
    }

    int replace(int from, int to) {
        return call().replace(from, to);
    }

    int cut(int from, int to) {
        return call().cut(from, to);
    }

    int paste() {
        return call().paste();
    }

    int indent(int from, int to, int by) {
        return call().indent(from, to, by);
    }

    int wrap(int line, int width) {
        return call().wrap(line, width);
    }

    int joinLines(int from, int to) {
        return call().joinLines(from, to);
    }

    int replaceNext() {
        return call().replaceNext();
    }

    int replaceAll() {
        return call().replaceAll();
    }

    int undo(int many) {
        return call().undo(many);
    }

    int redo(int many) {
        return call().redo(many);
    }

    int branch(int index) {
        return call().branch(index);
    }

    boolean group(boolean isOpen) {
        return call().group(isOpen);
    }

    int acts(int what) {
        return call().acts(what);
    }

    int setCursor(int place) {
        return call().setCursor(place);
    }

    int addCursor(int place) {
        return call().addCursor(place);
    }

    int moveCursors(int way, int by) {
        return call().moveCursors(way, by);
    }

    int cursorAt(int cursor) {
        return call().cursorAt(cursor);
    }

    int setMark(int mark, int place, boolean isLeft) {
        return call().setMark(mark, place, isLeft);
    }

    int dropMark(int mark) {
        return call().dropMark(mark);
    }

    int markAt(int mark) {
        return call().markAt(mark);
    }

    int markBeside(int place, boolean isForward) {
        return call().markBeside(place, isForward);
    }

    int setPattern(boolean isWords) {
        return call().setPattern(isWords);
    }

    int find(int place, boolean isForward) {
        return call().find(place, isForward);
    }

    int fold(int from, int to) {
        return call().fold(from, to);
    }

    int unfold(int line) {
        return call().unfold(line);
    }

    boolean isHidden(int line) {
        return call().isHidden(line);
    }

    int setView(int view, int top, int height) {
        return call().setView(view, top, height);
    }

    int rowOf(int view, int row) {
        return call().rowOf(view, row);
    }

    int record(boolean is) {
        return call().record(is);
    }

    int play(int times) {
        return call().play(times);
    }

    int count(int what) {
        return call().count(what);
    }

    int letterAt(int place) {
        return call().letterAt(place);
    }

    int lineOf(int place) {
        return call().lineOf(place);
    }

    int columnOf(int place) {
        return call().columnOf(place);
    }

    int placeAt(int line, int column) {
        return call().placeAt(line, column);
    }

    int setTab(int width) {
        return call().setTab(width);
    }

    int hash() {
        return call().hash();
    }

    double meanLine() {
        return call().meanLine();
    }

    int keep() {
        return call().keep();
    }

    int differences() {
        return call().differences();
    }

    float sameShare() {
        return call().sameShare();
    }

    int errors() {
        return call().errors();
    }
}
