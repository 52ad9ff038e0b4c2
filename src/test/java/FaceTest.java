import java.io.DataInputStream;
import java.io.File;
import java.io.IOException;
import java.io.InputStream;
import java.lang.reflect.Constructor;
import java.lang.reflect.Field;
import java.lang.reflect.Method;
import java.lang.reflect.Modifier;
import java.nio.file.Files;
import java.util.ArrayList;
import java.util.Arrays;
import java.util.List;
import java.util.Set;
import java.util.TreeSet;

/** The public face of the document, and the rules of LANGUAGE.md that the compiled classes show. */
final class FaceTest {
    private static final String[] FACE = {
        "int feed(long) IllegalArgumentException IllegalStateException",
        "int clearTape()",
        "int copy(int,int) IndexOutOfBoundsException IllegalArgumentException",
        "int copyBlock(int,int,int,int) IndexOutOfBoundsException IllegalArgumentException",
        "int type() IllegalStateException",
        "int erase(int) IllegalArgumentException IllegalStateException",
        "int replace(int,int) IndexOutOfBoundsException IllegalArgumentException IllegalStateException",
        "int cut(int,int) IndexOutOfBoundsException IllegalArgumentException IllegalStateException",
        "int paste() IllegalStateException",
        "int indent(int,int,int) IndexOutOfBoundsException IllegalArgumentException IllegalStateException",
        "int wrap(int,int) IndexOutOfBoundsException IllegalArgumentException IllegalStateException",
        "int joinLines(int,int) IndexOutOfBoundsException IllegalArgumentException IllegalStateException",
        "int replaceNext() IllegalStateException",
        "int replaceAll() IllegalStateException",
        "int undo(int) IllegalArgumentException",
        "int redo(int) IllegalArgumentException",
        "int branch(int) NoSuchElementException",
        "boolean group(boolean)",
        "int acts(int) IllegalArgumentException",
        "int setCursor(int) IndexOutOfBoundsException",
        "int addCursor(int) IndexOutOfBoundsException IllegalStateException",
        "int moveCursors(int,int) IllegalArgumentException",
        "int cursorAt(int) IndexOutOfBoundsException",
        "int setMark(int,int,boolean) IndexOutOfBoundsException",
        "int dropMark(int) IndexOutOfBoundsException",
        "int markAt(int) IndexOutOfBoundsException",
        "int markBeside(int,boolean) IndexOutOfBoundsException",
        "int setPattern(boolean) IllegalStateException",
        "int find(int,boolean) IndexOutOfBoundsException IllegalStateException",
        "int fold(int,int) IndexOutOfBoundsException IllegalArgumentException IllegalStateException",
        "int unfold(int) IndexOutOfBoundsException",
        "boolean isHidden(int) IndexOutOfBoundsException",
        "int setView(int,int,int) IndexOutOfBoundsException IllegalArgumentException",
        "int rowOf(int,int) IndexOutOfBoundsException IllegalArgumentException",
        "int record(boolean)",
        "int play(int) IllegalArgumentException IllegalStateException",
        "int count(int) IllegalArgumentException",
        "int letterAt(int) IndexOutOfBoundsException",
        "int lineOf(int) IndexOutOfBoundsException",
        "int columnOf(int) IndexOutOfBoundsException",
        "int placeAt(int,int) IndexOutOfBoundsException IllegalArgumentException",
        "int setTab(int) IllegalArgumentException",
        "int hash()",
        "double meanLine()",
        "int keep()",
        "int differences()",
        "float sameShare()",
        "int errors()"};

    private static final Set<String> LIBRARY = Set.of(
            "java/lang/Object.<init>", "java/lang/System.arraycopy", "java/lang/Math.min", "java/lang/Math.max",
            "java/lang/Math.abs", "java/lang/IllegalStateException.<init>", "java/lang/IllegalArgumentException.<init>",
            "java/lang/IndexOutOfBoundsException.<init>", "java/util/NoSuchElementException.<init>");

    private FaceTest() {
    }

    static void run(String classes) throws IOException {
        face();
        privateNames();
        fields();
        nested();
        library(new File(classes));
    }

    private static String described(Method method) {
        StringBuilder all = new StringBuilder(method.getReturnType() + " " + method.getName() + "(");
        for (Class<?> type : method.getParameterTypes()) {
            all.append(all.charAt(all.length() - 1) == '(' ? "" : ",").append(type);
        }
        all.append(")");
        for (Class<?> type : method.getExceptionTypes()) {
            all.append(" ").append(type.getSimpleName());
        }
        return all.toString();
    }

    private static void face() {
        Class<?> room = Cursorroom.class;
        Check.due("face: public and final", Modifier.PUBLIC | Modifier.FINAL, room.getModifiers());
        Check.due("face: no package", "", room.getPackageName());
        TreeSet<String> got = new TreeSet<>();
        for (Method method : room.getDeclaredMethods()) {
            if (!Modifier.isPrivate(method.getModifiers())) {
                got.add((method.getModifiers() == Modifier.PUBLIC ? "" : "other than public: ") + described(method));
            }
        }
        Check.due("face: methods", new TreeSet<>(Arrays.asList(FACE)), got);
        Constructor<?>[] makers = room.getDeclaredConstructors();
        Check.due("face: one constructor", 1, makers.length);
        Check.due("face: it is public", Modifier.PUBLIC, makers[0].getModifiers());
        Check.due("face: it takes nothing", 0, makers[0].getParameterCount());
        TreeSet<String> constants = new TreeSet<>();
        for (Field field : room.getDeclaredFields()) {
            if (!Modifier.isPrivate(field.getModifiers())) {
                constants.add(Modifier.toString(field.getModifiers()) + " " + field.getType() + " " + field.getName());
            }
        }
        TreeSet<String> want = new TreeSet<>();
        for (String name : "NONE LETTERS LINES WORDS ENDS PARAGRAPHS".split(" ")) {
            want.add("public static final int " + name);
        }
        Check.due("face: constants", want, constants);
        Check.due("face: NONE", -1, Cursorroom.NONE);
    }

    private static void privateNames() {
        TreeSet<String> open = new TreeSet<>();
        TreeSet<String> both = new TreeSet<>();
        for (Method method : Cursorroom.class.getMethods()) {
            open.add(method.getName());
        }
        for (Class<?> type : types()) {
            for (Method method : type.getDeclaredMethods()) {
                if ((type != Cursorroom.class || Modifier.isPrivate(method.getModifiers()))
                        && open.contains(method.getName())) {
                    both.add(method.getName());
                }
            }
        }
        Check.due("rule 1: private names", new TreeSet<String>(), both);
    }

    private static List<Class<?>> types() {
        List<Class<?>> all = new ArrayList<>(List.of(Cursorroom.class));
        all.addAll(Arrays.asList(Cursorroom.class.getDeclaredClasses()));
        return all;
    }

    private static void fields() {
        for (Class<?> type : types()) {
            int own = 0;
            for (Field field : type.getDeclaredFields()) {
                boolean isStatic = Modifier.isStatic(field.getModifiers());
                own += isStatic ? 0 : 1;
                if (isStatic) {
                    Check.due("rule 5: " + field, true, Modifier.isFinal(field.getModifiers())
                            && Set.of("int", "long", "boolean", "char").contains(field.getType().toString()));
                }
            }
            Check.due("rule 11: fields of " + type.getName(), true, own <= 20);
        }
        Check.due("rule 11: classes", true, types().size() <= 12);
    }

    private static void nested() {
        for (Class<?> type : Cursorroom.class.getDeclaredClasses()) {
            int is = type.getModifiers();
            Check.due("rule 1: " + type.getName(), true,
                    Modifier.isStatic(is) && !Modifier.isPublic(is) && !Modifier.isProtected(is));
        }
    }

    private static void library(File classes) throws IOException {
        File[] files = classes.listFiles((dir, name) -> name.startsWith("Cursorroom") && name.endsWith(".class"));
        Check.due("rule 4: compiled classes", types().size(), files == null ? 0
                : (int) Arrays.stream(files).filter(f -> f.getName().matches("Cursorroom(\\$\\w+)?\\.class")).count());
        TreeSet<String> others = new TreeSet<>();
        for (Class<?> type : types()) {
            File file = new File(classes, type.getName() + ".class");
            try (InputStream in = Files.newInputStream(file.toPath())) {
                others.addAll(calledOutside(new DataInputStream(in)));
            }
        }
        others.removeAll(LIBRARY);
        Check.due("rule 4: calls of the library", new TreeSet<String>(), others);
    }

    /** The methods outside the class that a compiled class names; also a mark for each call made at run time. */
    private static Set<String> calledOutside(DataInputStream in) throws IOException {
        in.readInt();
        in.readInt();
        int many = in.readUnsignedShort();
        Object[] pool = new Object[many];
        Set<String> all = new TreeSet<>();
        for (int at = 1; at < many; at++) {
            int tag = in.readUnsignedByte();
            switch (tag) {
                case 1 -> pool[at] = in.readUTF();
                case 3, 4 -> in.readInt();
                case 5, 6 -> {
                    in.readLong();
                    at++;
                }
                case 7, 8, 16, 19, 20 -> pool[at] = new int[] {tag, in.readUnsignedShort()};
                case 15 -> {
                    in.readUnsignedByte();
                    in.readUnsignedShort();
                }
                case 17, 18 -> {
                    in.readInt();
                    all.add("a call made at run time");
                }
                default -> pool[at] = new int[] {tag, in.readUnsignedShort(), in.readUnsignedShort()};
            }
        }
        for (Object entry : pool) {
            if (entry instanceof int[] e && (e[0] == 10 || e[0] == 11)) {
                String owner = (String) pool[((int[]) pool[e[1]])[1]];
                if (!owner.startsWith("Cursorroom")) {
                    all.add(owner + "." + pool[((int[]) pool[e[2]])[1]]);
                }
            }
        }
        return all;
    }
}
