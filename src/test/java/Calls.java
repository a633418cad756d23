import java.lang.reflect.Method;
import java.util.Arrays;
import java.util.Map;
import java.util.function.Function;
import java.util.stream.Collectors;

/** Calls of the program by their names. */
final class Calls {
    private static final Map<String, Method> METHODS = Arrays.stream(MountainFarms.class.getDeclaredMethods())
        .collect(Collectors.toMap(Method::getName, Function.identity(), (one, other) -> one));

    private Calls() {
    }

    /** One call; a boolean is told by 1 or 0. */
    static long call(MountainFarms x, String name, long... args) throws Exception {
        return ((Number) METHODS.get(name).invoke(x, given(name, args))).longValue();
    }

    static String text(String name, long... args) {
        return Arrays.stream(given(name, args)).map(String::valueOf).collect(Collectors.joining(", ", name + "(", ")"));
    }

    private static Object[] given(String name, long... args) {
        Class<?>[] types = METHODS.get(name).getParameterTypes();
        Object[] given = new Object[args.length];
        for (int i = 0; i < args.length; i++) {
            given[i] = types[i] == long.class ? (Object) args[i]
                : types[i] == int.class ? (Object) (int) args[i] : (Object) (args[i] == 1);
        }
        return given;
    }
}
