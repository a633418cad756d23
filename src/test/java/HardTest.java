import java.lang.reflect.InvocationTargetException;
import java.lang.reflect.Method;
import java.util.Arrays;
import java.util.Comparator;

/** Every call with every mix of hard arguments, on objects in several states: the machine must never throw. */
public final class HardTest {
    private static final Due due = new Due("HardTest");
    private static final int[] HARD = {Integer.MIN_VALUE, -1, 0, 1, 3, 8, 12, 35, 36, 64, Integer.MAX_VALUE};
    private static final int[] FEWER = {Integer.MIN_VALUE, -1, 0, 2, 8, 64, Integer.MAX_VALUE};

    public static void main(String[] args) throws Exception {
        Method[] methods = MountainFarms.class.getDeclaredMethods();
        methods = Arrays.stream(methods).filter(m -> (m.getModifiers() & 1) == 1).toArray(Method[]::new);
        Arrays.sort(methods, Comparator.comparing(Method::getName));
        for (int state = 0; state < 4; state++) {
            for (Method m : methods) {
                all(m, inState(state), new Object[m.getParameterCount()], 0);
            }
        }
        due.end();
    }

    private static MountainFarms inState(int state) {
        MountainFarms x = new MountainFarms();
        if (state >= 1) {
            for (int farm = 0; farm < 12; farm++) {
                x.farm(farm % 6, 3 * farm, farm % 6);
            }
            x.sheet(0, 8, 40);
            x.sheet(1, 16, 0);
            x.sheet(2, 64, 36);
        }
        if (state >= 2) {
            Due.makeItPulse(x);
            x.volume(99);
            for (int i = 0; i < 41; i++) {
                x.months(239);
            }
            for (int i = 0; i < 6; i++) {
                x.sees(i % 4);
            }
            Due.feed(x, "z".repeat(120));
            x.image();
        }
        if (state == 3) {
            x.months(200);
            for (int cell = 0; cell < 36; cell++) {
                x.wall(cell, cell + 1, true);
                x.wall(cell, cell + 6, true);
            }
        }
        return x;
    }

    private static void all(Method m, MountainFarms x, Object[] given, int place) throws Exception {
        if (place == given.length) {
            try {
                m.invoke(x, given);
                due.that(m.getName(), true);
            } catch (InvocationTargetException thrown) {
                due.that(m.getName() + Arrays.toString(given) + " threw " + thrown.getCause(), false);
            }
            return;
        }
        Class<?> type = m.getParameterTypes()[place];
        if (type == boolean.class) {
            for (boolean is : new boolean[] {true, false}) {
                given[place] = is;
                all(m, x, given, place + 1);
            }
            return;
        }
        for (int v : given.length > 3 ? FEWER : HARD) {
            given[place] = type == long.class ? (Object) (v * 4294967295L) : (Object) v;
            all(m, x, given, place + 1);
        }
    }
}
