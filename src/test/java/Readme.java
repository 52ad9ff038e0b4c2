import java.io.IOException;
import java.nio.file.Files;
import java.nio.file.Path;
import java.util.ArrayList;
import java.util.List;
import java.util.Set;
import java.util.TreeSet;
import java.util.function.Supplier;
import java.util.regex.Matcher;
import java.util.regex.Pattern;

/**
 * Makes of the java blocks of a README a program that makes their calls and compares the answers with
 * those behind the calls. A line of a block is "room.call(..);  // ANSWER" or "// ANSWER: words", where
 * ANSWER is a number, true, false or "throws" with the name of an exception. The words may tell what the
 * text is ("the text is "..""), and where the cursors are ("cursors at 0 7"), which is compared as well.
 */
public final class Readme {
    static final String MADE = "Cursorroom room = new Cursorroom();";
    private static final Pattern CALL = Pattern.compile("(room\\.(\\w+)\\([^;]*\\));\\s*// (.+)");
    private static final Pattern ANSWER =
            Pattern.compile("(-?[0-9]+(?:\\.[0-9]+)?|true|false|throws [A-Za-z]+)(?:: (.+))?");
    private static final Pattern TEXT = Pattern.compile("the text is (\"(?:[^\"\\\\]|\\\\.)*\")");
    private static final Pattern CURSORS = Pattern.compile("cursors at ([0-9 ]*[0-9])");

    private static int asSaid = 0;
    private static int others = 0;

    private final StringBuilder program = new StringBuilder();
    private final Set<String> called = new TreeSet<>();
    private final Set<String> thrown = new TreeSet<>();
    private final List<String> refused = new ArrayList<>();
    private int blocks = 0;
    private int calls = 0;

    Readme(List<String> lines) {
        boolean isOpen = false;
        boolean isJava = false;
        for (int at = 0; at < lines.size(); at++) {
            String line = lines.get(at).strip();
            if (line.startsWith("```")) {
                endBlock(isJava);
                isOpen = !isOpen;
                isJava = isOpen && line.equals("```java");
                beginBlock(isJava);
            } else if (isJava) {
                statement(at + 1, line);
            }
        }
        endBlock(isJava);
    }

    private void beginBlock(boolean isJava) {
        if (isJava) {
            blocks++;
            program.append("    private static void block").append(blocks).append("() {\n");
        }
    }

    private void endBlock(boolean isJava) {
        if (isJava) {
            program.append("    }\n");
        }
    }

    private void statement(int number, String line) {
        Matcher call = CALL.matcher(line);
        Matcher answer = ANSWER.matcher(call.matches() ? call.group(3) : "");
        if (answer.matches()) {
            calls++;
            called.add(call.group(2));
            if (answer.group(1).startsWith("throws ")) {
                thrown.add(answer.group(1).substring(7));
            }
            comparison("answers", number, call.group(1), "\"" + answer.group(1) + "\"");
            words(number, answer.group(2) == null ? "" : answer.group(2));
        } else if (line.equals(MADE)) {
            program.append("        ").append(MADE).append('\n');
        } else if (!line.isEmpty() && !line.startsWith("//")) {
            refused.add(number + ": " + line);
        }
    }

    private void words(int number, String words) {
        Matcher text = TEXT.matcher(words);
        if (text.find()) {
            comparison("hasText", number, "room", text.group(1));
        }
        Matcher cursors = CURSORS.matcher(words);
        if (cursors.find()) {
            comparison("hasCursors", number, "room", "\"" + cursors.group(1) + "\"");
        }
    }

    private void comparison(String name, int number, String what, String want) {
        program.append("        Readme.").append(name).append('(').append(number).append(", ");
        program.append(name.equals("answers") ? "() -> " : "").append(what).append(", ").append(want).append(");\n");
    }

    /** The lines of blocks that are neither a call with its answer, nor a remark, nor the making of a room. */
    List<String> refused() {
        return refused;
    }

    Set<String> called() {
        return called;
    }

    Set<String> thrown() {
        return thrown;
    }

    int calls() {
        return calls;
    }

    String program() {
        StringBuilder all = new StringBuilder("public final class ReadmeCalls {\n");
        all.append("    public static void main(String[] args) {\n");
        for (int block = 1; block <= blocks; block++) {
            all.append("        block").append(block).append("();\n");
        }
        all.append("        Readme.end(").append(calls).append(", args);\n    }\n");
        return all.append(program).append("}\n").toString();
    }

    // ---- what the program that is made calls

    static void answers(int line, Supplier<Object> call, String want) {
        String got;
        try {
            got = "" + call.get();
        } catch (RuntimeException e) {
            got = "throws " + e.getClass().getSimpleName();
        }
        compare(line, "the answer", want, got);
    }

    /** The sum of promise 44 is the one that Java has for its strings. */
    static void hasText(int line, Cursorroom room, String want) {
        boolean isSame = room.count(0) == want.length() && room.hash() == want.hashCode();
        compare(line, "the text", want, isSame ? want : "another one");
    }

    static void hasCursors(int line, Cursorroom room, String want) {
        StringBuilder got = new StringBuilder();
        for (int cursor = 0; cursor < room.count(2); cursor++) {
            got.append(cursor == 0 ? "" : " ").append(room.cursorAt(cursor));
        }
        compare(line, "the cursors", want, got.toString());
    }

    private static void compare(int line, String what, String want, String got) {
        if (want.equals(got)) {
            asSaid++;
        } else {
            others++;
            System.out.println("line " + line + ": " + what + ": said is " + want + ", it is " + got);
        }
    }

    /** Ends the program that is made; its argument tells how many things are to be other ones than said. */
    static void end(int calls, String[] args) {
        int due = args.length > 0 ? Integer.parseInt(args[0]) : 0;
        System.out.println(calls + " calls: " + asSaid + " things are as said, " + others + " are not");
        System.exit(calls > 0 && others == due ? 0 : 1);
    }

    /** Takes the README and the file to which the program goes. */
    public static void main(String[] args) throws IOException {
        Readme readme = new Readme(Files.readAllLines(Path.of(args[0])));
        for (String line : readme.refused()) {
            System.out.println("neither a call with its answer nor a remark: line " + line);
        }
        Files.writeString(Path.of(args[1]), readme.program());
        System.exit(readme.refused().isEmpty() ? 0 : 1);
    }
}
