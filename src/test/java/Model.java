import java.util.ArrayList;
import java.util.Arrays;
import java.util.List;
import java.util.NoSuchElementException;

/**
 * The document once more, as slow and as close to its words as can be: texts are Strings, the parts
 * of an act are replaced one by one, and a state is copied whole. ModelTest compares it with the class.
 */
final class Model {
    record Part(int a, int b, String put) { }

    static final class State {
        String text = "";
        List<Integer> cursors = new ArrayList<>(List.of(0));
        int[] marks = new int[16];
        boolean[] isLeft = new boolean[16];
        List<Boolean> hidden = new ArrayList<>(List.of(false));

        State() {
            Arrays.fill(marks, -1);
        }

        State twin() {
            State s = new State();
            s.text = text;
            s.cursors = new ArrayList<>(cursors);
            s.marks = marks.clone();
            s.isLeft = isLeft.clone();
            s.hidden = new ArrayList<>(hidden);
            return s;
        }
    }

    static final class Node {
        Node parent;
        List<Node> next = new ArrayList<>();
        Node chosen;
        State before;
        State after;
    }

    record Step(int kind, int way, int by, String letters) { }

    State now = new State();
    String tape = "";
    String clip = "";
    List<String> block = null;
    String pattern = "";
    boolean isWords;
    Node at = new Node();
    int kept;
    boolean isOpen;
    Node openNode;
    int[] top = {0, 0};
    int[] height = {10, 10};
    int tab = 4;
    List<Step> steps = new ArrayList<>();
    boolean isRecording;
    String keptText = "";

    // ---- words of the document

    void place(int p) {
        if (p < 0 || p > now.text.length()) throw new IndexOutOfBoundsException();
    }

    void line(int l) {
        if (l < 0 || l >= lines().length) throw new IndexOutOfBoundsException();
    }

    private String splitText = "";
    private String[] split = {""};

    String[] lines() {
        if (!splitText.equals(now.text)) {
            splitText = now.text;
            split = splitText.split("\n", -1);
        }
        return split;
    }

    static int lineIn(String text, int p) {
        int line = 0;
        for (int i = 0; i < p; i++) if (text.charAt(i) == '\n') line++;
        return line;
    }

    int start(int l) {
        String[] all = lines();
        int sum = 0;
        for (int i = 0; i < l; i++) sum += all[i].length() + 1;
        return sum;
    }

    int end(int l) {
        return start(l) + lines()[l].length();
    }

    static boolean word(char c) {
        return "ABCDEFGHIJKLMNOPQRSTUVWXYZabcdefghijklmnopqrstuvwxyz0123456789_".indexOf(c) >= 0;
    }

    boolean blankLine(int l) {
        return lines()[l].replace("\t", " ").trim().isEmpty();
    }

    int open(List<Boolean> hidden, int l) {
        if (!hidden.get(l)) return 0;
        int lo = l;
        int hi = l;
        while (lo > 0 && hidden.get(lo - 1)) lo--;
        while (hi + 1 < hidden.size() && hidden.get(hi + 1)) hi++;
        for (int i = lo; i <= hi; i++) hidden.set(i, false);
        return hi - lo + 1;
    }

    void settle() {
        now.cursors = new ArrayList<>(new java.util.TreeSet<>(now.cursors));
        for (int c : now.cursors) open(now.hidden, lineIn(now.text, c));
    }

    static int shift(int p, Part part, boolean left) {
        int n = part.put.length();
        if (p < part.a) return p;
        if (p == part.b) return left ? part.a : part.a + n;
        if (p < part.b) return part.a;
        return p + n - (part.b - part.a);
    }

    void replacePart(State s, Part p) {
        int la = lineIn(s.text, p.a);
        int lb = lineIn(s.text, p.b);
        for (int l = la; l <= lb; l++) open(s.hidden, l);
        for (int l = lb; l > la; l--) s.hidden.remove(l);
        for (char c : p.put.toCharArray()) if (c == 10) s.hidden.add(la + 1, false);
        s.text = s.text.substring(0, p.a) + p.put + s.text.substring(p.b);
        s.cursors.replaceAll(c -> shift(c, p, false));
        for (int m = 0; m < 16; m++) if (s.marks[m] >= 0) s.marks[m] = shift(s.marks[m], p, s.isLeft[m]);
    }

    boolean act(List<Part> parts) {
        boolean isNothing = true;
        for (Part p : parts) isNothing &= p.a == p.b && p.put.isEmpty();
        if (isNothing) return true;
        StringBuilder then = new StringBuilder(now.text);
        for (int i = parts.size() - 1; i >= 0; i--) then.replace(parts.get(i).a, parts.get(i).b, parts.get(i).put);
        if (then.length() > 3000 || lineIn(then.toString(), then.length()) + 1 > 300) return false;
        if (openNode == null && kept == 150) return false;
        if (openNode == null) {
            Node n = new Node();
            n.parent = at;
            n.before = now.twin();
            at.next.add(n);
            at.chosen = n;
            at = n;
            kept++;
            if (isOpen) openNode = n;
        }
        for (int i = parts.size() - 1; i >= 0; i--) {
            Part p = parts.get(i);
            if (p.a < p.b || !p.put.isEmpty()) replacePart(now, p);
        }
        if (!now.text.contentEquals(then)) throw new AssertionError("model");
        settle();
        return true;
    }

    void must(boolean is) {
        if (!is) throw new IllegalStateException();
    }

    void argument(boolean is) {
        if (!is) throw new IllegalArgumentException();
    }

    void close() {
        isOpen = false;
        openNode = null;
    }

    // ---- the face

    int feed(long x) {
        StringBuilder add = new StringBuilder();
        for (byte b : java.nio.ByteBuffer.allocate(8).putLong(x).array()) {
            argument(b == 0 || b == 9 || b == 10 || b >= 32 && b <= 126);
            if (b != 0) add.append((char) b);
        }
        must(tape.length() + add.length() <= 200);
        tape += add;
        return tape.length();
    }

    int clearTape() {
        int n = tape.length();
        tape = "";
        return n;
    }

    int copy(int from, int to) {
        place(from);
        place(to);
        argument(from <= to);
        clip = now.text.substring(from, to);
        block = null;
        return clip.length();
    }

    int copyBlock(int l, int many, int first, int width) {
        line(l);
        if ((long) l + many > lines().length) throw new IndexOutOfBoundsException();
        argument(many >= 1 && first >= 0 && first <= 200 && width >= 1 && width <= 40);
        block = new ArrayList<>();
        int taken = 0;
        for (int i = l; i < l + many; i++) {
            String line = lines()[i];
            StringBuilder row = new StringBuilder();
            for (int k = first; k < first + width; k++) {
                if (k < line.length()) taken++;
                row.append(k < line.length() ? line.charAt(k) : ' ');
            }
            block.add(row.toString());
        }
        return taken;
    }

    boolean putAll(String s) {
        List<Part> parts = new ArrayList<>();
        for (int c : now.cursors) parts.add(new Part(c, c, s));
        return act(parts);
    }

    void note(int kind, int way, int by, String s) {
        if (isRecording && steps.size() < 40) steps.add(new Step(kind, way, by, s));
    }

    int type() {
        must(putAll(tape));
        note(0, 0, 0, tape);
        return now.text.length();
    }

    boolean eraseAll(int many) {
        boolean[] gone = new boolean[now.text.length()];
        for (int c : now.cursors) {
            for (int i = c; i < c + many; i++) if (i < gone.length) gone[i] = true;
            for (int i = c - 1; i >= c + many; i--) if (i >= 0) gone[i] = true;
        }
        List<Part> parts = new ArrayList<>();
        for (int i = 0; i < gone.length; i++) {
            if (!gone[i]) continue;
            int j = i;
            while (j < gone.length && gone[j]) j++;
            parts.add(new Part(i, j, ""));
            i = j;
        }
        return act(parts);
    }

    int erase(int many) {
        argument(many >= -100 && many <= 100);
        int n = now.text.length();
        must(eraseAll(many));
        note(1, 0, many, "");
        return n - now.text.length();
    }

    int replace(int from, int to) {
        place(from);
        place(to);
        argument(from <= to);
        must(act(List.of(new Part(from, to, tape))));
        return now.text.length();
    }

    int cut(int from, int to) {
        place(from);
        place(to);
        argument(from <= to);
        String s = now.text.substring(from, to);
        must(act(List.of(new Part(from, to, ""))));
        clip = s;
        block = null;
        return to - from;
    }

    boolean pasteAll() {
        if (block == null) return putAll(clip);
        int c = now.cursors.get(0);
        int l = lineIn(now.text, c);
        int number = c - start(l);
        java.util.TreeMap<Integer, String> puts = new java.util.TreeMap<>();
        for (int i = 0; i < block.size(); i++) {
            String put = block.get(i);
            int p = now.text.length();
            if (l + i < lines().length) {
                int len = lines()[l + i].length();
                p = start(l + i) + Math.min(number, len);
                put = " ".repeat(Math.max(0, number - len)) + put;
            } else {
                put = "\n" + " ".repeat(number) + put;
            }
            puts.merge(p, put, (x, y) -> x + y);
        }
        List<Part> parts = new ArrayList<>();
        puts.forEach((p, s) -> parts.add(new Part(p, p, s)));
        return act(parts);
    }

    int paste() {
        must(pasteAll());
        note(3, 0, 0, "");
        return now.text.length();
    }

    int indent(int from, int to, int by) {
        line(from);
        line(to);
        argument(from <= to && by != 0 && Math.abs((long) by) <= 8);
        List<Part> parts = new ArrayList<>();
        for (int l = from; l <= to; l++) {
            String s = lines()[l];
            int p = start(l);
            if (by > 0 && !s.isEmpty()) parts.add(new Part(p, p, " ".repeat(by)));
            int n = s.length() - s.replaceAll("^[ \t]+", "").length();
            if (by < 0 && n > 0) parts.add(new Part(p, p + Math.min(n, -by), ""));
        }
        must(act(parts));
        return parts.size();
    }

    int wrap(int l, int width) {
        line(l);
        argument(width >= 1 && width <= 100);
        String s = lines()[l];
        int p = start(l);
        List<Part> parts = new ArrayList<>();
        int begin = 0;
        while (s.length() - begin > width) {
            int found = -1;
            for (int i = begin; i < s.length(); i++) {
                int ahead = i - begin;
                if (s.charAt(i) == ' ' && ahead >= 1 && ahead <= width) found = i;
            }
            for (int i = begin; found < 0 && i < s.length(); i++) {
                if (s.charAt(i) == ' ' && i - begin > width) found = i;
            }
            if (found < 0) break;
            parts.add(new Part(p + found, p + found + 1, "\n"));
            begin = found + 1;
        }
        must(act(parts));
        return parts.size();
    }

    int joinLines(int from, int to) {
        line(from);
        line(to);
        argument(from <= to);
        List<Part> parts = new ArrayList<>();
        for (int l = from; l < to; l++) {
            int a = end(l);
            int b = a + 1;
            while (b < now.text.length() && (now.text.charAt(b) == ' ' || now.text.charAt(b) == '\t')) b++;
            parts.add(new Part(a, b, " "));
        }
        must(act(parts));
        return lines().length;
    }

    boolean isFind(int p) {
        if (!now.text.startsWith(pattern, p)) return false;
        int e = p + pattern.length();
        return !isWords || (p == 0 || !word(now.text.charAt(p - 1)))
                && (e == now.text.length() || !word(now.text.charAt(e)));
    }

    List<Integer> finds() {
        List<Integer> all = new ArrayList<>();
        for (int p = 0; p < now.text.length(); p++) if (isFind(p)) all.add(p);
        return all;
    }

    int replaceNext() {
        must(!pattern.isEmpty());
        List<Integer> all = finds();
        if (all.isEmpty()) return -1;
        int best = all.get(0);
        for (int i = all.size() - 1; i >= 0; i--) if (all.get(i) >= now.cursors.get(0)) best = all.get(i);
        must(act(List.of(new Part(best, best + pattern.length(), tape))));
        now.cursors = new ArrayList<>(List.of(best + tape.length()));
        settle();
        return best;
    }

    int replaceAll() {
        must(!pattern.isEmpty());
        List<Part> parts = new ArrayList<>();
        int end = 0;
        for (int p : finds()) {
            if (p >= end) {
                end = p + pattern.length();
                parts.add(new Part(p, end, tape));
            }
        }
        must(act(parts));
        return parts.size();
    }

    int undo(int many) {
        argument(many >= 1 && many <= 150);
        close();
        int n = 0;
        for (; n < many && at.parent != null; n++) {
            at.after = now.twin();
            now = at.before.twin();
            at.parent.chosen = at;
            at = at.parent;
        }
        return n;
    }

    int redo(int many) {
        argument(many >= 1 && many <= 150);
        close();
        int n = 0;
        for (; n < many && at.chosen != null; n++) {
            at = at.chosen;
            now = at.after.twin();
        }
        return n;
    }

    int branch(int index) {
        if (index < 0 || index >= at.next.size()) throw new NoSuchElementException();
        close();
        at.chosen = at.next.get(index);
        return at.next.size();
    }

    boolean group(boolean is) {
        boolean was = isOpen;
        close();
        isOpen = is;
        return was;
    }

    int acts(int what) {
        argument(what >= 0 && what <= 3);
        int back = 0;
        int on = 0;
        for (Node n = at; n.parent != null; n = n.parent) back++;
        for (Node n = at; n.chosen != null; n = n.chosen) on++;
        return new int[] {kept, back, on, at.next.size()}[what];
    }

    int setCursor(int p) {
        place(p);
        int n = now.cursors.size();
        now.cursors = new ArrayList<>(List.of(p));
        settle();
        return n;
    }

    int addCursor(int p) {
        place(p);
        must(now.cursors.size() < 8 || now.cursors.contains(p));
        now.cursors.add(p);
        settle();
        return now.cursors.size();
    }

    int column(int p) {
        int col = 0;
        for (int i = start(lineIn(now.text, p)); i < p; i++) {
            col++;
            while (now.text.charAt(i) == '\t' && col % tab != 0) col++;
        }
        return col;
    }

    int at(int l, int col) {
        for (int p = start(l); p < end(l); p++) if (column(p) >= col) return p;
        return end(l);
    }

    int moveOne(int p, int way, int by) {
        String t = now.text;
        if (way == 0) return Math.min(Math.max(p + by, 0), t.length());
        if (way == 3) return by < 0 ? start(lineIn(t, p)) : by > 0 ? end(lineIn(t, p)) : p;
        if (way == 1) {
            int l = lineIn(t, p);
            for (int i = 0; i < Math.abs(by); i++) {
                int n = l + Integer.signum(by);
                while (n >= 0 && n < lines().length && now.hidden.get(n)) n += Integer.signum(by);
                if (n >= 0 && n < lines().length) l = n;
            }
            return by == 0 ? p : at(l, column(p));
        }
        for (int i = 0; i < by; i++) p = way == 2 ? wordOn(p) : paragraphOn(p);
        for (int i = 0; i < -by; i++) p = way == 2 ? wordBack(p) : paragraphBack(p);
        return p;
    }

    int wordOn(int p) {
        while (p < now.text.length() && !word(now.text.charAt(p))) p++;
        while (p < now.text.length() && word(now.text.charAt(p))) p++;
        return p;
    }

    int wordBack(int p) {
        while (p > 0 && !word(now.text.charAt(p - 1))) p--;
        while (p > 0 && word(now.text.charAt(p - 1))) p--;
        return p;
    }

    List<Integer> paragraphs() {
        List<Integer> all = new ArrayList<>();
        for (int l = 0; l < lines().length; l++) {
            if (!blankLine(l) && (l == 0 || blankLine(l - 1))) all.add(start(l));
        }
        return all;
    }

    int paragraphOn(int p) {
        for (int s : paragraphs()) if (s > p) return s;
        return now.text.length();
    }

    int paragraphBack(int p) {
        int best = 0;
        for (int s : paragraphs()) if (s < p) best = s;
        return best;
    }

    void moveAll(int way, int by) {
        State then = now;
        List<Integer> places = new ArrayList<>();
        for (int c : then.cursors) places.add(moveOne(c, way, by));
        now.cursors = places;
        settle();
    }

    int moveCursors(int way, int by) {
        argument(way >= 0 && way <= 4 && by >= -50 && by <= 50);
        moveAll(way, by);
        note(2, way, by, "");
        return now.cursors.size();
    }

    int cursorAt(int c) {
        if (c < 0 || c >= now.cursors.size()) throw new IndexOutOfBoundsException();
        return now.cursors.get(c);
    }

    void mark(int m) {
        if (m < 0 || m > 15) throw new IndexOutOfBoundsException();
    }

    int setMark(int m, int p, boolean left) {
        mark(m);
        place(p);
        int was = now.marks[m];
        now.marks[m] = p;
        now.isLeft[m] = left;
        return was;
    }

    int dropMark(int m) {
        mark(m);
        int was = now.marks[m];
        now.marks[m] = -1;
        return was;
    }

    int markAt(int m) {
        mark(m);
        return now.marks[m];
    }

    int markBeside(int p, boolean on) {
        place(p);
        for (int q = p; q >= 0 && q <= now.text.length(); q += on ? 1 : -1) {
            for (int m = 0; m < 16; m++) if (now.marks[m] == q) return m;
        }
        return -1;
    }

    int setPattern(boolean words) {
        must(!tape.isEmpty() && tape.length() <= 40);
        pattern = tape;
        isWords = words;
        return finds().size();
    }

    int find(int p, boolean on) {
        place(p);
        must(!pattern.isEmpty());
        int best = -1;
        for (int f : finds()) {
            if (on && f >= p && best < 0) best = f;
            if (!on && f < p) best = f;
        }
        return best;
    }

    int fold(int from, int to) {
        line(from);
        line(to);
        argument(from < to);
        for (int c : now.cursors) {
            int l = lineIn(now.text, c);
            must(l <= from || l > to);
        }
        for (int l = from + 1; l <= to; l++) now.hidden.set(l, true);
        return java.util.Collections.frequency(now.hidden, true);
    }

    int unfold(int l) {
        line(l);
        return open(now.hidden, l);
    }

    boolean isHidden(int l) {
        line(l);
        return now.hidden.get(l);
    }

    void view(int v) {
        if (v < 0 || v > 1) throw new IndexOutOfBoundsException();
    }

    int setView(int v, int t, int h) {
        view(v);
        argument(t >= 0 && h >= 1 && h <= 40);
        int was = top[v];
        top[v] = t;
        height[v] = h;
        return was;
    }

    int rowOf(int v, int row) {
        view(v);
        argument(row >= 0 && row < height[v]);
        int first = Math.min(top[v], lines().length - 1);
        while (now.hidden.get(first)) first--;
        List<Integer> shown = new ArrayList<>();
        for (int l = first; l < lines().length; l++) if (!now.hidden.get(l)) shown.add(l);
        return row < shown.size() ? shown.get(row) : -1;
    }

    int record(boolean is) {
        int n = steps.size();
        if (is) steps.clear();
        isRecording = is;
        return n;
    }

    int play(int times) {
        argument(times >= 1 && times <= 20);
        must(!isRecording);
        boolean alone = !isOpen;
        if (alone) isOpen = true;
        int n = playAll(times);
        if (alone) close();
        return n;
    }

    int playAll(int times) {
        int n = 0;
        for (int t = 0; t < times; t++) {
            for (Step s : steps) {
                boolean isGood = true;
                if (s.kind == 0) isGood = putAll(s.letters);
                if (s.kind == 1) isGood = eraseAll(s.by);
                if (s.kind == 2) moveAll(s.way, s.by);
                if (s.kind == 3) isGood = pasteAll();
                if (!isGood) return n;
                n++;
            }
        }
        return n;
    }

    int count(int what) {
        argument(what >= 0 && what <= 7);
        int set = 0;
        for (int m : now.marks) if (m >= 0) set++;
        int words = 0;
        for (int i = 0; i < now.text.length(); i++) {
            if (word(now.text.charAt(i)) && (i == 0 || !word(now.text.charAt(i - 1)))) words++;
        }
        int clipped = block == null ? clip.length() : String.join("", block).length();
        return new int[] {now.text.length(), lines().length, now.cursors.size(), set,
            java.util.Collections.frequency(now.hidden, true), tape.length(), clipped, words}[what];
    }

    int letterAt(int p) {
        if (p < 0 || p >= now.text.length()) throw new IndexOutOfBoundsException();
        return now.text.charAt(p);
    }

    int lineOf(int p) {
        place(p);
        return lineIn(now.text, p);
    }

    int columnOf(int p) {
        place(p);
        return column(p);
    }

    int placeAt(int l, int col) {
        line(l);
        argument(col >= 0);
        return at(l, col);
    }

    int setTab(int w) {
        argument(w >= 1 && w <= 8);
        int was = tab;
        tab = w;
        return was;
    }

    int hash() {
        return now.text.hashCode();
    }

    double meanLine() {
        return (double) now.text.replace("\n", "").length() / (double) lines().length;
    }

    int keep() {
        keptText = now.text;
        return lines().length;
    }

    int common() {
        String[] a = keptText.split("\n", -1);
        String[] b = lines();
        int[][] t = new int[a.length + 1][b.length + 1];
        for (int i = a.length - 1; i >= 0; i--) {
            for (int j = b.length - 1; j >= 0; j--) {
                t[i][j] = a[i].equals(b[j]) ? t[i + 1][j + 1] + 1 : Math.max(t[i + 1][j], t[i][j + 1]);
            }
        }
        return t[0][0];
    }

    int differences() {
        return keptText.split("\n", -1).length + lines().length - 2 * common();
    }

    float sameShare() {
        return (float) common() / (float) lines().length;
    }

    int errors() {
        close();
        return 0;
    }
}
