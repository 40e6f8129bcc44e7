import java.io.IOException;
import java.lang.reflect.Constructor;
import java.lang.reflect.Field;
import java.lang.reflect.Method;
import java.lang.reflect.Modifier;
import java.nio.file.Files;
import java.nio.file.Paths;
import java.util.Arrays;
import java.util.Set;
import java.util.TreeSet;

/** The public face of the document, and rules 1 and 2 of LANGUAGE.md, as the compiled class shows them. */
final class FaceTest {
    private static final String[] METHODS = {
        "int section(int) IllegalArgumentException IllegalStateException",
        "int set(int,int,int) IndexOutOfBoundsException IllegalArgumentException",
        "int chain(int) IndexOutOfBoundsException",
        "int arrange()",
        "int run(int) IllegalArgumentException",
        "int rest()",
        "int tap(int,int) IndexOutOfBoundsException IllegalArgumentException",
        "int ask(int,int) IndexOutOfBoundsException IllegalArgumentException",
        "int design()",
        "int sample(int) IllegalArgumentException",
        "int of(int,int) IndexOutOfBoundsException IllegalArgumentException",
        "int output(int) IndexOutOfBoundsException",
        "long gain(int,boolean) IllegalArgumentException IllegalStateException",
        "boolean meets(int,int,int) IllegalArgumentException IllegalStateException",
        "int cycles(int,int,int) IndexOutOfBoundsException IllegalArgumentException",
        "int tapOf(int) IndexOutOfBoundsException",
        "int answer(int) IndexOutOfBoundsException",
        "int answerAnew(int) IndexOutOfBoundsException",
        "int sifted(int) IndexOutOfBoundsException",
    };
    // The calls with what the interface says ahead of them, in the document's order.
    private static final String[] ROWS = {
        "TapLoom(",
        "// ---- sections", "section(", "set(", "chain(", "arrange(", "run(", "rest(",
        "// ---- taps, samples", "tap(", "ask(", "design(", "sample(",
        "// ---- what is asked", "of(", "output(", "gain(", "meets(", "cycles(", "tapOf(", "answer(", "answerAnew(",
        "sifted(",
    };
    private static final String[] CONSTANTS = {"NONE", "LOW", "HIGH", "QUARTER"};

    private static final Kit KIT = new Kit();

    public static void main(String[] args) throws IOException {
        String source = Files.readString(Paths.get("src/main/java/TapLoom.java"));
        KIT.test("The public face: its class is public and final and has no package", FaceTest::theClass);
        KIT.test("The public face: one constructor, public, without parameters", FaceTest::constructor);
        KIT.test("The public face: just its methods, each with its throws clause in order", FaceTest::methods);
        KIT.test("The public face: just its constants, public static final int", FaceTest::constants);
        KIT.test("The public face, 'Ahead of the calls ... the interface says: ---- sections' and so on",
                () -> rows(source));
        KIT.test("The constants: what the interface says of them, 'There is none' and 'Where gains are'",
                () -> saidOfConstants(source));
        KIT.test("LANGUAGE.md rule 1: no private method bears the name of a public one", FaceTest::privateNames);
        KIT.test("LANGUAGE.md rule 1: the classes inside are private or package-visible, and static",
                FaceTest::classesInside);
        KIT.test("LANGUAGE.md rule 5: static fields are final", FaceTest::staticFields);
        KIT.test("LANGUAGE.md rule 11: at most some twelve classes, and some twenty fields in each", FaceTest::sizes);
        KIT.end();
    }

    private static void yes(String what, boolean holds) {
        KIT.is(what, holds, true);
    }

    private static void theClass() {
        KIT.is("modifiers", TapLoom.class.getModifiers(), Modifier.PUBLIC | Modifier.FINAL);
        yes("no package", TapLoom.class.getPackageName().isEmpty());
        yes("no class above it", TapLoom.class.getSuperclass() == Object.class);
        KIT.is("interfaces", TapLoom.class.getInterfaces().length, 0);
    }

    private static void constructor() {
        Constructor<?>[] all = TapLoom.class.getDeclaredConstructors();
        KIT.is("constructors", all.length, 1);
        KIT.is("its parameters", all[0].getParameterCount(), 0);
        yes("it is public", Modifier.isPublic(all[0].getModifiers()));
        KIT.is("its throws clause", all[0].getExceptionTypes().length, 0);
    }

    private static void methods() {
        Set<String> due = new TreeSet<>(Arrays.asList(METHODS));
        Set<String> found = new TreeSet<>();
        for (Method m : TapLoom.class.getDeclaredMethods()) {
            if (!Modifier.isPrivate(m.getModifiers())) {
                found.add(faceOf(m));
                KIT.is(m.getName() + ": modifiers", m.getModifiers(), Modifier.PUBLIC);
            }
        }
        if (!found.equals(due)) {
            KIT.fail("the face is " + found + ", due is " + due);
        }
    }

    private static String faceOf(Method m) {
        StringBuilder face = new StringBuilder(m.getReturnType().getName() + " " + m.getName() + "(");
        for (int i = 0; i < m.getParameterTypes().length; i++) {
            face.append(i == 0 ? "" : ",").append(m.getParameterTypes()[i].getName());
        }
        face.append(")");
        for (Class<?> thrown : m.getExceptionTypes()) {
            face.append(" ").append(thrown.getSimpleName());
        }
        return face.toString();
    }

    private static void constants() {
        Set<String> open = new TreeSet<>();
        for (Field f : TapLoom.class.getDeclaredFields()) {
            if (!Modifier.isPrivate(f.getModifiers())) {
                open.add(Modifier.toString(f.getModifiers()) + " " + f.getType() + " " + f.getName());
            }
        }
        Set<String> due = new TreeSet<>();
        for (String name : CONSTANTS) {
            due.add("public static final int " + name);
        }
        if (!open.equals(due)) {
            KIT.fail("open fields are " + open + ", due is " + due);
        }
    }

    private static void rows(String source) {
        int behind = 0;
        for (String row : ROWS) {
            String start = row.startsWith("//") ? "    " + row + "\n" : " " + row;
            int at = row.startsWith("//") ? source.indexOf(start, behind) : openAt(source, start, behind);
            yes(row + " stands behind the one ahead of it", at >= 0);
            behind = Math.max(behind, at);
        }
    }

    /** Where a public row of the source has this in it, or -1. */
    private static int openAt(String source, String start, int from) {
        int row = source.indexOf("    public ", from);
        while (row >= 0) {
            int end = source.indexOf('\n', row);
            if (source.substring(row, end).contains(start)) {
                return row;
            }
            row = source.indexOf("    public ", end);
        }
        return -1;
    }

    private static void saidOfConstants(String source) {
        yes("NONE", source.contains("    /** There is none. */\n    public static final int NONE = -1;\n"));
        yes("LOW, HIGH and QUARTER", source.contains(
                "    /** Where gains are. */\n    public static final int LOW = 0, HIGH = 1, QUARTER = 2;\n"));
    }

    private static void privateNames() {
        Set<String> open = new TreeSet<>();
        for (Method m : TapLoom.class.getDeclaredMethods()) {
            if (Modifier.isPublic(m.getModifiers())) {
                open.add(m.getName());
            }
        }
        for (Method m : TapLoom.class.getDeclaredMethods()) {
            yes(m + " bears a name of its own", Modifier.isPublic(m.getModifiers()) || !open.contains(m.getName()));
        }
        for (Class<?> inside : TapLoom.class.getDeclaredClasses()) {
            for (Method m : inside.getDeclaredMethods()) {
                yes(m + " bears a name of its own", !open.contains(m.getName()));
            }
        }
    }

    private static void classesInside() {
        for (Class<?> inside : TapLoom.class.getDeclaredClasses()) {
            int modifiers = inside.getModifiers();
            yes(inside + " is not open", !Modifier.isPublic(modifiers) && !Modifier.isProtected(modifiers));
            yes(inside + " is static", Modifier.isStatic(modifiers));
        }
    }

    private static void staticFields() {
        staticFieldsOf(TapLoom.class);
        for (Class<?> inside : TapLoom.class.getDeclaredClasses()) {
            staticFieldsOf(inside);
        }
    }

    private static void staticFieldsOf(Class<?> type) {
        for (Field f : type.getDeclaredFields()) {
            yes(f + " is final, if it is static",
                    !Modifier.isStatic(f.getModifiers()) || Modifier.isFinal(f.getModifiers()));
        }
    }

    private static void sizes() {
        yes("twelve classes", 1 + TapLoom.class.getDeclaredClasses().length <= 12);
        yes("twenty fields", fieldsOf(TapLoom.class) <= 20);
        for (Class<?> inside : TapLoom.class.getDeclaredClasses()) {
            yes("twenty fields in " + inside, fieldsOf(inside) <= 20);
        }
    }

    private static int fieldsOf(Class<?> type) {
        int count = 0;
        for (Field f : type.getDeclaredFields()) {
            count += Modifier.isStatic(f.getModifiers()) ? 0 : 1;
        }
        return count;
    }
}
