import java.lang.reflect.InvocationTargetException;
import java.lang.reflect.Method;
import java.lang.reflect.Modifier;
import java.util.Arrays;
import java.util.Comparator;

/** Every call with numbers of every size, in several states: it answers, or throws what the face names. */
public final class AnyArgumentsTest {
    private static final int[] NUMBERS = {Integer.MIN_VALUE, Integer.MIN_VALUE + 1, Integer.MIN_VALUE
            + 10, -65536, -65, -33,
        -32, -10, -2, -1, 0, 1, 2, 3, 4, 5, 6, 7, 8, 9, 10, 11, 17, 18, 20, 31, 32, 33, 40, 60, 61, 63, 64, 65, 128,
                199, 200, 201,
        255, 256, 257, 780, 800, 801, 999, 1000, 1001, 5000, 5001, 65536, 1 << 24, 1 << 30, Integer.MAX_VALUE - 10,
        Integer.MAX_VALUE - 1, Integer.MAX_VALUE};
    private static final int MOST_CALLS = 400;

    private static int wrong = 0;

    /** New; with works alone; one person; a full house, and the same with weeks, an image, a row and a tape. */
    private static FullHouse made(int state) {
        FullHouse x = new FullHouse();
        if (state == 1) {
            take(x, "work 0 8;work 23 1;");
        } else if (state == 2) {
            take(x, Houses.ofOne());
        } else if (state >= 3) {
            take(x, Houses.full());
        }
        if (state == 4) {
            x.day(63);
            x.begin(-1);
            x.on(60);
            x.image();
            x.on(60);
            Check.feed(x, Houses.full());
        }
        return x;
    }

    private static void take(FullHouse x, String text) {
        Check.feed(x, text);
        if (x.house(text.length()) != 0) {
            throw new IllegalStateException("the test's own text has a fault at " + x.fault());
        }
    }

    private static Object[] arguments(Method method, int choice) {
        Class<?>[] types = method.getParameterTypes();
        Object[] arguments = new Object[types.length];
        int rest = choice;
        for (int i = 0; i < types.length; i++) {
            if (types[i] == boolean.class) {
                arguments[i] = rest % 2 == 0;
                rest /= 2;
            } else {
                // the five numbers of feed would be too many, so from the third on they follow the others
                arguments[i] = NUMBERS[i < 2 ? rest % NUMBERS.length : (rest + choice + i) % NUMBERS.length];
                rest /= NUMBERS.length;
            }
        }
        return arguments;
    }

    private static int choices(Method method) {
        int choices = 1;
        int numbers = 0;
        for (Class<?> type : method.getParameterTypes()) {
            if (type == boolean.class) {
                choices *= 2;
            } else if (numbers < 2) {
                choices *= NUMBERS.length;
                numbers++;
            }
        }
        return choices;
    }

    private static void call(FullHouse x, Method method, Object[] arguments) {
        try {
            method.invoke(x, arguments);
        } catch (InvocationTargetException e) {
            Class<?> thrown = e.getCause().getClass();
            if (!Arrays.asList(method.getExceptionTypes()).contains(thrown)) {
                wrong++;
                System.out.println(method.getName() + Arrays.toString(arguments) + " throws " + e.getCause());
            }
        } catch (IllegalAccessException e) {
            throw new IllegalStateException(e);
        }
    }

    public static void main(String[] args) {
        Method[] methods = FullHouse.class.getDeclaredMethods();
        Arrays.sort(methods, Comparator.comparing(Method::getName));
        for (int state = 0; state <= 4; state++) {
            for (Method method : methods) {
                if (!Modifier.isPublic(method.getModifiers())) {
                    continue;
                }
                FullHouse x = made(state);
                for (int choice = 0; choice < choices(method); choice++) {
                    if (choice % MOST_CALLS == MOST_CALLS - 1) {
                        x = made(state);
                    }
                    call(x, method, arguments(method, choice));
                }
            }
        }
        System.exit(wrong == 0 ? 0 : 1);
    }
}
