import java.io.IOException;
import java.lang.reflect.Method;
import java.lang.reflect.Modifier;
import java.nio.file.Files;
import java.nio.file.Path;
import java.util.List;
import java.util.Set;
import java.util.TreeSet;

/** README.md shows each call of the face with its answer; .ci/run makes the calls (see Readme). */
final class ReadmeTest {
    private ReadmeTest() {
    }

    static void run(Path file) throws IOException {
        everyCallIsShown(new Readme(Files.readAllLines(file)));
        lines();
        blocks();
        programs();
    }

    private static void everyCallIsShown(Readme readme) {
        Set<String> face = new TreeSet<>();
        for (Method method : Cursorroom.class.getDeclaredMethods()) {
            if (Modifier.isPublic(method.getModifiers())) {
                face.add(method.getName());
            }
        }
        Check.due("README: calls shown", face, readme.called());
        Check.due("README: exceptions shown", Set.of("IllegalArgumentException", "IllegalStateException",
                "IndexOutOfBoundsException", "NoSuchElementException"), readme.thrown());
        Check.due("README: lines without an answer", List.of(), readme.refused());
    }

    private static Readme inBlock(String... lines) {
        List<String> all = new java.util.ArrayList<>(List.of(lines));
        all.add(0, "```java");
        all.add("```");
        return new Readme(all);
    }

    private static void answered(String line) {
        Readme readme = inBlock(line);
        Check.due("README line: " + line, List.of(), readme.refused());
        Check.due("README call: " + line, 1, readme::calls);
    }

    private static void refused(String line) {
        Readme readme = inBlock(line);
        Check.due("README line: " + line, List.of("2: " + line), readme.refused());
        Check.due("README call: " + line, 0, readme::calls);
    }

    private static void lines() {
        answered("room.type();  // 3");
        answered("room.type();// 3: letters; and more");
        answered("room.find(0, true); // -1: NONE");
        answered("room.meanLine(); // 2.5");
        answered("room.group(true); // false");
        answered("room.type(); // throws IllegalStateException: refused");
        refused("room.type();");
        refused("room.type(); //");
        refused("room.type(); // so many letters");
        refused("room.type(); // 3 letters");
        refused("room.type(); room.type(); // 3");
        refused("int length = room.type(); // 3");
        refused("Cursorroom other = new Cursorroom();");
        refused("for (int at = 0; at < 3; at++) {");
        Check.due("README remarks", List.of(), inBlock(Readme.MADE, "", "// a remark").refused());
    }

    private static void blocks() {
        Check.due("README: none outside of blocks", 0, new Readme(List.of("room.type(); // 3"))::calls);
        Check.due("README: none in other blocks", 0, new Readme(List.of("```sh", "room.type(); // 3", "```"))::calls);
        Check.due("README: none behind a block", 1,
                new Readme(List.of("```java", "room.type(); // 3", "```", "room.type(); // 3"))::calls);
        Check.due("README: a block at the end", 2,
                new Readme(List.of("```java", "room.type(); // 3", "room.undo(1); // 1"))::calls);
    }

    private static boolean makes(String line, String compared) {
        return inBlock(Readme.MADE, line).program().contains("        Readme." + compared + ";\n");
    }

    private static void programs() {
        String line = "room.type(); // 3: the text is \"a\\n\\\"\", with cursors at 0 3";
        Check.due("README program: answer", true, makes(line, "answers(3, () -> room.type(), \"3\")"));
        Check.due("README program: text", true, makes(line, "hasText(3, room, \"a\\n\\\"\")"));
        Check.due("README program: cursors", true, makes(line, "hasCursors(3, room, \"0 3\")"));
        Check.due("README program: exception", true,
                makes("room.undo(0); // throws E: so", "answers(3, () -> room.undo(0), \"throws E\")"));
    }
}
