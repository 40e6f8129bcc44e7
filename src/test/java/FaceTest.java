import java.lang.reflect.Constructor;
import java.lang.reflect.Field;
import java.lang.reflect.Method;
import java.lang.reflect.Modifier;
import java.util.Arrays;
import java.util.Set;
import java.util.TreeSet;

/** The public face: just the document's members, and no private method of a public one's name. */
final class FaceTest {
    private static final String[] METHODS = {
        "int section(int) IllegalArgumentException IllegalStateException",
        "int set(int,int,int) IndexOutOfBoundsException IllegalArgumentException",
        "int chain(int) IndexOutOfBoundsException",
        "int arrange()",
        "int run(int) IllegalArgumentException",
        "int rest()",
        "int tap(int,int) IndexOutOfBoundsException IllegalArgumentException",
        "int ask(int,int) IndexOutOfBoundsException IllegalArgumentException",
        "int design()",
        "int sample(int) IllegalArgumentException",
        "int of(int,int) IndexOutOfBoundsException IllegalArgumentException",
        "int output(int) IndexOutOfBoundsException",
        "long gain(int,boolean) IllegalArgumentException IllegalStateException",
        "boolean meets(int,int,int) IllegalArgumentException IllegalStateException",
        "int cycles(int,int,int) IndexOutOfBoundsException IllegalArgumentException",
        "int tapOf(int) IndexOutOfBoundsException",
        "int answer(int) IndexOutOfBoundsException",
        "int answerAnew(int) IndexOutOfBoundsException",
        "int sifted(int) IndexOutOfBoundsException",
    };

    public static void main(String[] args) {
        Check check = new Check();
        methods(check);
        fields(check);
        constructors(check);
        classesInside(check);
        check.end();
    }

    private static void methods(Check check) {
        Set<String> due = new TreeSet<>(Arrays.asList(METHODS));
        Set<String> found = new TreeSet<>();
        Set<String> publicNames = new TreeSet<>();
        for (Method m : TapLoom.class.getDeclaredMethods()) {
            if (!Modifier.isPrivate(m.getModifiers())) {
                found.add(faceOf(m));
                publicNames.add(m.getName());
                check.due(m.getName() + " is public", Modifier.isPublic(m.getModifiers()), true);
                check.due(m.getName() + " is static", Modifier.isStatic(m.getModifiers()), false);
            }
        }
        if (!found.equals(due)) {
            check.fail("the face is " + found + ", due is " + due);
        }
        for (Method m : TapLoom.class.getDeclaredMethods()) {
            if (Modifier.isPrivate(m.getModifiers()) && publicNames.contains(m.getName())) {
                check.fail("a private method bears the public name " + m.getName());
            }
        }
        for (Class<?> inside : TapLoom.class.getDeclaredClasses()) {
            for (Method m : inside.getDeclaredMethods()) {
                if (publicNames.contains(m.getName())) {
                    check.fail(inside.getName() + " bears the public name " + m.getName());
                }
            }
        }
    }

    private static String faceOf(Method m) {
        StringBuilder face = new StringBuilder(m.getReturnType().getName() + " " + m.getName() + "(");
        for (int i = 0; i < m.getParameterTypes().length; i++) {
            face.append(i == 0 ? "" : ",").append(m.getParameterTypes()[i].getName());
        }
        face.append(")");
        for (Class<?> thrown : m.getExceptionTypes()) {
            face.append(" ").append(thrown.getSimpleName());
        }
        return face.toString();
    }

    private static void fields(Check check) {
        check.due("NONE", TapLoom.NONE, -1);
        check.due("LOW", TapLoom.LOW, 0);
        check.due("HIGH", TapLoom.HIGH, 1);
        check.due("QUARTER", TapLoom.QUARTER, 2);
        Set<String> open = new TreeSet<>();
        for (Field f : TapLoom.class.getDeclaredFields()) {
            if (!Modifier.isPrivate(f.getModifiers())) {
                open.add(Modifier.toString(f.getModifiers()) + " " + f.getType() + " " + f.getName());
            }
            if (Modifier.isStatic(f.getModifiers())) {
                check.due(f.getName() + " is final", Modifier.isFinal(f.getModifiers()), true);
            }
        }
        Set<String> due = new TreeSet<>(Arrays.asList("public static final int NONE",
                "public static final int LOW", "public static final int HIGH",
                "public static final int QUARTER"));
        if (!open.equals(due)) {
            check.fail("open fields are " + open);
        }
    }

    private static void constructors(Check check) {
        Constructor<?>[] all = TapLoom.class.getDeclaredConstructors();
        check.due("constructors", all.length, 1);
        check.due("its parameters", all[0].getParameterCount(), 0);
        check.due("it is public", Modifier.isPublic(all[0].getModifiers()), true);
        check.due("the class is public and final",
                TapLoom.class.getModifiers(), Modifier.PUBLIC | Modifier.FINAL);
    }

    private static void classesInside(Check check) {
        check.due("at most twelve classes", TapLoom.class.getDeclaredClasses().length <= 11, true);
        for (Class<?> inside : TapLoom.class.getDeclaredClasses()) {
            check.due(inside.getName() + " is public",
                    Modifier.isPublic(inside.getModifiers()), false);
            check.due(inside.getName() + " is static",
                    Modifier.isStatic(inside.getModifiers()), true);
        }
    }
}
