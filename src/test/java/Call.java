import java.lang.reflect.InvocationTargetException;
import java.util.Arrays;
import java.util.stream.Collectors;

/** A call by its name, so that the same one can be made of a ConeDesk and of a Model. */
record Call(String name, int... numbers) {
    private static final String THROWS = "throws.";

    /** The answer as a text; the class of what it threw, if it threw. */
    String on(Object desk) {
        Class<?>[] types = new Class<?>[numbers.length];
        Arrays.fill(types, int.class);
        Object[] given = Arrays.stream(numbers).boxed().toArray();
        try {
            Object answer = desk.getClass().getMethod(name, types).invoke(desk, given);
            return answer == null ? "done" : answer.toString();
        } catch (InvocationTargetException e) {
            return thrown(e.getCause().getClass());
        } catch (ReflectiveOperationException e) {
            throw new AssertionError(this + " can't be called", e);
        }
    }

    static String thrown(Class<?> what) {
        return THROWS + what.getSimpleName();
    }

    static boolean isThrown(String answer) {
        return answer.startsWith(THROWS);
    }

    @Override
    public String toString() {
        return Arrays.stream(numbers).mapToObj(Integer::toString).collect(Collectors.joining(", ", name + "(", ")"));
    }
}
