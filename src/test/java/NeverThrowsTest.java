import java.lang.reflect.InvocationTargetException;
import java.lang.reflect.Method;
import java.lang.reflect.Modifier;
import java.util.NoSuchElementException;

/** Whatever is asked in whatever state, nothing is thrown but what carrier promises (promises 1 to 50). */
final class NeverThrowsTest {
    private static final Check CHECK = new Check();
    private static final int CALLS = 300;
    private static final int[] NUMBERS = {Integer.MIN_VALUE, -1, 0, 1, 4, 7, 20, Integer.MAX_VALUE};
    private static final long[] SEEDS = {Long.MIN_VALUE, -1, 0, 1, 4, 7, 20, Long.MAX_VALUE};
    private static final Bounds.Past[] PASTS = {
        Pasts::nothing, Pasts::busy, Pasts::lastHour, NeverThrowsTest::most};

    public static void main(String[] args) throws IllegalAccessException {
        for (Method method : CannonPost.class.getDeclaredMethods()) {
            if (Modifier.isPublic(method.getModifiers())) {
                for (int past = 0; past < PASTS.length; past++) {
                    callWithAll(method, past);
                }
            }
        }
        CHECK.close();
    }

    /** As many as there can be of all, and a tape that is full. */
    private static void most(CannonPost x) {
        Check.tell(x, Check.LEAGUE, "sp99b6w9;fx40h9y9;fx38;fx30;fx22;fx14;fx6;fx4;fx0;cm1f7;cm9f7;cf7;cf7;cf7");
        for (int i = 0; i < 4; i++) {
            Check.tell(x, Check.LAW, i == 0 ? "y:p*2+w" : "y:9999*9999*[0-9999]/[p-p]");
            Check.tell(x, Check.PLAN, "n75;s0120;h9;w91;s4020;s9199;n99");
        }
        x.law(0);
        x.damps(9);
        for (int i = 0; i < 12; i++) {
            x.seen(4, 7, 20, 1, -40);
            x.face(7, i % 2 == 0);
            x.feed(-1, -1, -1, -1, -1);
        }
        x.decades(60, Long.MAX_VALUE);
        x.image();
    }

    /** All rows of these numbers, each post for some of them. */
    private static void callWithAll(Method method, int past) throws IllegalAccessException {
        Class<?>[] types = method.getParameterTypes();
        int rows = 1;
        for (int i = 0; i < types.length; i++) {
            rows *= NUMBERS.length;
        }
        CannonPost x = null;
        for (int row = 0; row < rows; row++) {
            if (row % CALLS == 0) {
                x = Bounds.after(PASTS[past]);
            }
            call(x, method, given(types, row), past);
        }
    }

    private static Object[] given(Class<?>[] types, int row) {
        Object[] given = new Object[types.length];
        int left = row;
        for (int i = 0; i < types.length; i++) {
            int number = left % NUMBERS.length;
            left /= NUMBERS.length;
            if (types[i] == boolean.class) {
                given[i] = number % 2 == 0;
            } else if (types[i] == long.class) {
                given[i] = SEEDS[number];
            } else {
                given[i] = NUMBERS[number];
            }
        }
        return given;
    }

    private static void call(CannonPost x, Method method, Object[] given, int past) throws IllegalAccessException {
        boolean promised = true;
        try {
            method.invoke(x, given);
        } catch (InvocationTargetException e) {
            promised = method.getName().equals("carrier") && e.getCause().getClass() == NoSuchElementException.class;
        }
        CHECK.holds(method.getName() + java.util.Arrays.toString(given) + " behind past " + past + " throws nothing", promised);
    }
}
