import java.lang.management.ManagementFactory;
import java.lang.reflect.Constructor;
import java.lang.reflect.Field;
import java.lang.reflect.Method;
import java.lang.reflect.Modifier;
import java.util.Set;
import java.util.TreeSet;

/** The public face and what LANGUAGE.md says of it, and the room that calls take. */
public final class ShapeTest {
    private static final String[] FACE = {
        "int add(int,int,int,int) IllegalArgumentException IllegalStateException",
        "void drop(int) IndexOutOfBoundsException",
        "int look(int)",
        "int row(int,int) IndexOutOfBoundsException",
        "int rays() IllegalStateException",
        "int ray(int,int) IllegalStateException IndexOutOfBoundsException",
        "int size() IllegalStateException",
        "boolean bounds(int) IllegalStateException IndexOutOfBoundsException",
        "int faces(int) IllegalStateException",
        "int basis() IllegalStateException",
        "int point(int,int) IllegalStateException IndexOutOfBoundsException",
        "boolean holds(int,int,int,int)",
        "int parts(int,int,int,int) IllegalStateException",
        "int least(int,int,int,int) IllegalArgumentException IllegalStateException"
    };

    private final Checks checks = new Checks();

    public static void main(String[] args) {
        ShapeTest test = new ShapeTest();
        test.face();
        test.nestedClasses();
        test.room();
        test.checks.end();
    }

    private void face() {
        checks.same("the class is final", Modifier.isFinal(ConeDesk.class.getModifiers()), true);
        Set<String> due = new TreeSet<>(Set.of(FACE));
        Set<String> names = new TreeSet<>();
        Set<String> privateNames = new TreeSet<>();
        Set<String> got = new TreeSet<>();
        for (Method method : ConeDesk.class.getDeclaredMethods()) {
            if (Modifier.isPrivate(method.getModifiers())) {
                privateNames.add(method.getName());
            } else {
                names.add(method.getName());
                got.add(signature(method));
                checks.same(method + " is public", Modifier.isPublic(method.getModifiers()), true);
            }
        }
        checks.same("the face", got, due);
        privateNames.retainAll(names);
        checks.same("private methods with a public name", privateNames.size(), 0);
        for (Constructor<?> constructor : ConeDesk.class.getDeclaredConstructors()) {
            checks.same("constructors", constructor.toString().equals("public ConeDesk(int)"), true);
        }
        for (Field field : ConeDesk.class.getDeclaredFields()) {
            checks.same(field + " is private", Modifier.isPrivate(field.getModifiers()), true);
            checks.same(field + " is no changing static", Modifier.isStatic(field.getModifiers())
                    && !Modifier.isFinal(field.getModifiers()), false);
        }
    }

    private static String signature(Method method) {
        StringBuilder text = new StringBuilder(method.getReturnType() + " " + method.getName() + "(");
        for (Class<?> type : method.getParameterTypes()) {
            text.append(text.charAt(text.length() - 1) == '(' ? "" : ",").append(type);
        }
        text.append(")");
        for (Class<?> type : method.getExceptionTypes()) {
            text.append(" ").append(type.getSimpleName());
        }
        return text.toString();
    }

    private void nestedClasses() {
        Class<?>[] nested = ConeDesk.class.getDeclaredClasses();
        checks.same("at most twelve classes", nested.length < 12, true);
        for (Class<?> one : nested) {
            checks.same(one + " is static", Modifier.isStatic(one.getModifiers()), true);
            checks.same(one + " is not public or protected",
                    (one.getModifiers() & (Modifier.PUBLIC | Modifier.PROTECTED)) == 0, true);
            checks.same(one + " has at most some twenty fields", one.getDeclaredFields().length <= 20, true);
        }
    }

    // A run has room for some 600,000 objects, and an object takes 16 bytes or more; as many bytes
    // hold less than 7.3 million elements of four bytes each.
    private void room() {
        com.sun.management.ThreadMXBean threads =
                (com.sun.management.ThreadMXBean) ManagementFactory.getThreadMXBean();
        dearRun();
        long before = threads.getCurrentThreadAllocatedBytes();
        dearRun();
        long taken = threads.getCurrentThreadAllocatedBytes() - before;
        System.out.println("a run of 512 calls takes " + taken + " bytes");
        checks.same("the room of a run is enough", taken < 16L * 600_000, true);
    }

    private static void dearRun() {
        ConeDesk desk = new ConeDesk(4);
        desk.add(1, 0, 0, 0);
        desk.add(-1, 0, 0, 1);
        desk.add(0, 1, 0, 0);
        desk.add(0, -1, 0, 1);
        desk.add(0, 0, 1, 0);
        desk.add(0, 0, -1, 1);
        for (int turn = 0; turn < 84; turn++) {
            desk.add(1, 2, 2, turn % 3);
            desk.basis();
            desk.parts(20, 30, 10, 60);
            desk.least(-7, 3, 5, turn);
            desk.faces(2);
            desk.drop(6);
        }
    }
}
