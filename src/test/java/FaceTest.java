import java.lang.reflect.Constructor;
import java.lang.reflect.Field;
import java.lang.reflect.Method;
import java.lang.reflect.Modifier;
import java.util.Arrays;
import java.util.TreeSet;

/** The public face: its constants, constructor and methods, and nothing else that is not private. */
public final class FaceTest {
    private static final String[] METHODS = {
        "fill 2", "basin 1", "gauge 2", "mark 2", "deed 5", "copy 2", "drop 1", "lever 3", "same 2", "count 1",
        "act 2", "pull 2", "tick 0", "failed 0", "told 1", "clear 0"};
    private static final String[] CONSTANTS = {
        "BAD -1", "NONE -2", "SHORT -3", "INDEX -4", "ZERO -5", "MISSING -6", "FULL -7", "TIRED -8", "DEEP -9"};

    public static void main(String[] args) throws ReflectiveOperationException {
        Check check = new Check();
        check.due("public and final", LeverHall.class.getModifiers(), Modifier.PUBLIC | Modifier.FINAL);

        TreeSet<String> methods = new TreeSet<>();
        TreeSet<String> hidden = new TreeSet<>();
        for (Method method : LeverHall.class.getDeclaredMethods()) {
            if (Modifier.isPrivate(method.getModifiers())) {
                hidden.add(method.getName());
            } else {
                check.due(method + " is public alone", method.getModifiers(), Modifier.PUBLIC);
                check.due(method + " gives an int", method.getReturnType() == int.class ? 1 : 0, 1);
                for (Class<?> type : method.getParameterTypes()) {
                    check.due(method + " takes ints", type == int.class ? 1 : 0, 1);
                }
                check.due(method + " names no exception", method.getExceptionTypes().length, 0);
                methods.add(method.getName() + " " + method.getParameterCount());
            }
        }
        check.due("methods " + methods, methods.equals(new TreeSet<>(Arrays.asList(METHODS))) ? 1 : 0, 1);
        for (String method : METHODS) {
            check.due("private " + method, hidden.contains(method.split(" ")[0]) ? 1 : 0, 0);
        }

        TreeSet<String> constants = new TreeSet<>();
        for (Field field : LeverHall.class.getDeclaredFields()) {
            if (!Modifier.isPrivate(field.getModifiers())) {
                check.due(field + " is a constant", field.getModifiers(),
                        Modifier.PUBLIC | Modifier.STATIC | Modifier.FINAL);
                constants.add(field.getName() + " " + field.getInt(null));
            } else if (Modifier.isStatic(field.getModifiers())) {
                check.due(field + " is final", Modifier.isFinal(field.getModifiers()) ? 1 : 0, 1);
            }
        }
        check.due("constants " + constants, constants.equals(new TreeSet<>(Arrays.asList(CONSTANTS))) ? 1 : 0, 1);

        Constructor<?>[] constructors = LeverHall.class.getDeclaredConstructors();
        check.due("constructors", constructors.length, 1);
        check.due("constructor's parameters", constructors[0].getParameterCount(), 0);
        check.due("constructor is public", constructors[0].getModifiers(), Modifier.PUBLIC);
        check.end();
    }
}
