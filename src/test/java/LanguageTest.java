import java.lang.management.ManagementFactory;
import java.lang.reflect.Field;
import java.lang.reflect.Method;
import java.lang.reflect.Modifier;
import java.nio.file.Files;
import java.nio.file.Path;
import java.util.Set;
import java.util.TreeSet;

/** The class's face, what of LANGUAGE.md can be seen from outside, and how much room the calls take. */
public final class LanguageTest {
    private static final String[] FACE = {
        "int begin(int,int) IllegalArgumentException",
        "int append(int) IllegalArgumentException IllegalStateException",
        "int clearBuffer()",
        "int firstError()",
        "int setNext(int) IndexOutOfBoundsException IllegalStateException",
        "int setInit() IllegalStateException",
        "int setProperty() IllegalStateException",
        "int undo() IllegalStateException",
        "int successor(int,int) IndexOutOfBoundsException IllegalArgumentException",
        "int state(int,int) IndexOutOfBoundsException IllegalArgumentException",
        "int system(int) IllegalArgumentException",
        "int shortest(int,int) IllegalStateException IndexOutOfBoundsException IllegalArgumentException",
        "long candidate() IllegalStateException",
        "int check() IllegalStateException",
        "int escape(int) IllegalArgumentException IllegalStateException",
        "long modal(int) IllegalArgumentException IllegalStateException",
        "int prove()",
        "int proof(int) IllegalArgumentException",
        "long frame(int) IllegalStateException IndexOutOfBoundsException",
        "int cube(int,int) IllegalStateException IndexOutOfBoundsException IllegalArgumentException",
        "long certificate() IllegalStateException",
        "int shrunken() IllegalStateException",
        "int induction(boolean)",
        "long elimination(int) IllegalArgumentException",
        "boolean isSafeWithFree(int) IllegalArgumentException",
        "int leastCone()",
        "int simulate(int,int,int) IllegalArgumentException IllegalStateException",
        "long digest()"
    };

    private static final String[] REFUSED = {
        "package ", "try ", "catch ", "finally", "synchronized", "assert ", "->", "::", "Exact", "double", "float",
        "System.out", "System.nanoTime", "System.currentTimeMillis", "Thread", "Random", "Exception e", "hashCode",
        "toString", "equals("
    };

    /** What one object may take, and what all further calls on it may take, in bytes. */
    private static final long ROOM_OF_OBJECT = 64 * 1024;
    private static final long ROOM_OF_CALLS = 16 * 1024;

    private static int wrong = 0;
    private static int asked = 0;

    public static void main(String[] args) throws Exception {
        theFace();
        theClassesInside();
        theText();
        theRoom();
        System.out.println(asked + " questions, " + wrong + " answers are not as due");
        if (wrong != 0) {
            System.exit(1);
        }
    }

    private static void due(String what, boolean holds) {
        asked++;
        if (!holds) {
            wrong++;
            System.out.println("does not hold: " + what);
        }
    }

    private static void theFace() {
        Class<?> face = SafetyProver.class;
        due("the class is public and final", Modifier.isPublic(face.getModifiers()) && Modifier.isFinal(face.getModifiers()));
        due("one public constructor", face.getDeclaredConstructors().length == 1 && face.getConstructors().length == 1);
        due("NONE is -1", SafetyProver.NONE == -1);
        Set<String> found = new TreeSet<>();
        Set<String> names = new TreeSet<>();
        for (Method method : face.getDeclaredMethods()) {
            if (Modifier.isPublic(method.getModifiers())) {
                found.add(signature(method));
                names.add(method.getName());
            }
        }
        due("the methods are those of the document: " + found, found.equals(new TreeSet<>(java.util.List.of(FACE))));
        for (Method method : face.getDeclaredMethods()) {
            int modifiers = method.getModifiers();
            due(method + " is public or private", Modifier.isPublic(modifiers) || Modifier.isPrivate(modifiers));
            due(method + " has a name of its own", Modifier.isPublic(modifiers) || !names.contains(method.getName()));
        }
        for (Field field : face.getDeclaredFields()) {
            boolean isNone = field.getName().equals("NONE");
            due(field + " is private", isNone || Modifier.isPrivate(field.getModifiers()));
            due(field + " is final", Modifier.isFinal(field.getModifiers()));
        }
        for (Class<?> inside : face.getDeclaredClasses()) {
            for (Method method : inside.getDeclaredMethods()) {
                due(method + " is not named as one of the face", !names.contains(method.getName()));
            }
        }
    }

    private static String signature(Method method) {
        StringBuilder text = new StringBuilder(method.getReturnType().getName()).append(' ').append(method.getName());
        text.append('(');
        for (Class<?> type : method.getParameterTypes()) {
            text.append(text.charAt(text.length() - 1) == '(' ? "" : ",").append(type.getName());
        }
        text.append(')');
        for (Class<?> type : method.getExceptionTypes()) {
            text.append(' ').append(type.getSimpleName());
        }
        return text.toString();
    }

    private static void theClassesInside() {
        Class<?>[] inside = SafetyProver.class.getDeclaredClasses();
        due("at most twelve classes", inside.length < 12);
        for (Class<?> one : inside) {
            due(one + " is static", Modifier.isStatic(one.getModifiers()));
            due(one + " is not public", !Modifier.isPublic(one.getModifiers()) && !Modifier.isProtected(one.getModifiers()));
            int fields = 0;
            for (Field field : one.getDeclaredFields()) {
                boolean isStatic = Modifier.isStatic(field.getModifiers());
                due(field + " is final if it is static", !isStatic || Modifier.isFinal(field.getModifiers()));
                fields += isStatic ? 0 : 1;
            }
            due(one + " has at most twenty fields", fields <= 20);
            for (Method method : one.getDeclaredMethods()) {
                due(method + " has at most seven parameters", method.getParameterCount() <= 7);
            }
        }
    }

    private static void theText() throws Exception {
        String text = Files.readString(Path.of("src/main/java/SafetyProver.java"));
        for (String refused : REFUSED) {
            due("the program does not say " + refused, !text.contains(refused));
        }
        for (String line : text.split("\n")) {
            due(line + " imports what is allowed", !line.startsWith("import ") || line.equals("import java.util.Arrays;"));
            due(line + " is not long", line.length() <= 120);
            due(line + " throws what is allowed", !line.contains("throw new") || line.contains("IllegalStateException(\"")
                || line.contains("IllegalArgumentException(\"") || line.contains("IndexOutOfBoundsException(\""));
        }
        int length = 0;
        for (String line : text.split("\n")) {
            length = line.trim().isEmpty() ? 0 : length + 1;
            due("a method is short: " + line, length <= 60);
        }
    }

    private static void theRoom() {
        com.sun.management.ThreadMXBean bean = (com.sun.management.ThreadMXBean) ManagementFactory.getThreadMXBean();
        callAll(new SafetyProver());
        long before = bean.getCurrentThreadAllocatedBytes();
        SafetyProver object = new SafetyProver();
        long made = bean.getCurrentThreadAllocatedBytes();
        callAll(object);
        long called = bean.getCurrentThreadAllocatedBytes();
        due("a new object takes little room: " + (made - before), made - before <= ROOM_OF_OBJECT);
        due("the calls take little room: " + (called - made), called - made <= ROOM_OF_CALLS);
    }

    /** Each call that throws nothing, often. */
    private static void callAll(SafetyProver p) {
        for (int turn = 0; turn < 20; turn++) {
            p.begin(6, 2);
            write(p, "a^x");
            p.setNext(0);
            write(p, "b^a&y");
            p.setNext(1);
            write(p, "c&!x|d&(a^b)");
            p.setNext(2);
            write(p, "!a&!b");
            p.setInit();
            p.undo();
            write(p, "!(d&e)");
            p.setProperty();
            p.firstError();
            p.successor(5, 3);
            p.state(7, 4);
            p.system(7);
            p.prove();
            p.proof(7);
            p.frame(1);
            p.cube(0, 0);
            p.certificate();
            p.shrunken();
            p.induction(true);
            p.elimination(3);
            p.isSafeWithFree(3);
            p.leastCone();
            p.simulate(100, 5, 1);
            write(p, "a|!b");
            p.candidate();
            p.check();
            p.escape(2);
            for (int kind = 0; kind <= 5; kind++) {
                p.modal(kind);
            }
            p.digest();
            p.clearBuffer();
        }
    }

    private static void write(SafetyProver p, String text) {
        for (int index = 0; index < text.length(); index++) {
            p.append(text.charAt(index));
        }
    }
}
