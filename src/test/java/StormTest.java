import java.lang.reflect.InvocationTargetException;
import java.lang.reflect.Method;
import java.lang.reflect.Modifier;
import java.util.ArrayList;
import java.util.Comparator;
import java.util.List;
import java.util.Random;

/**
 * Any calls with any arguments in any state: none throws, and two banks that are asked the same answer the same. Half
 * of the numbers are small, so that towns, acts, images and rows come to be.
 */
public final class StormTest {
    private static final int RUNS = 600;
    private static final int CALLS = 512;
    private static final int[] ENDS = {Integer.MIN_VALUE, Integer.MIN_VALUE + 1, -1000, -12, -2, -1, 31, 32, 60, 61, 64,
        255, 256, 900, 2000000000, Integer.MAX_VALUE - 1, Integer.MAX_VALUE};

    public static void main(String[] args) throws ReflectiveOperationException {
        List<Method> methods = new ArrayList<>();
        for (Method method : HopeBank.class.getDeclaredMethods()) {
            if (Modifier.isPublic(method.getModifiers())) {
                methods.add(method);
            }
        }
        methods.sort(Comparator.comparing(Method::getName));
        Random random = new Random(20261118);
        for (int run = 0; run < RUNS; run++) {
            storm(run, methods, random);
        }
        Check.close();
    }

    private static void storm(int run, List<Method> methods, Random random) throws ReflectiveOperationException {
        HopeBank bank = new HopeBank();
        HopeBank twin = new HopeBank();
        int calls = 0;
        while (calls < CALLS - 60) {
            if (random.nextInt(80) == 0 || calls == 0 && run % 4 != 0) {
                String text = text(random);
                bank.end(0);
                twin.end(0);
                Check.feed(bank, text);
                Check.feed(twin, text);
                calls += text.length() / 20 + 4;
                Check.due("run " + run + ": town()", bank.town(), twin.town());
            }
            Method method = methods.get(random.nextInt(methods.size()));
            if (method.getName().equals("town") && random.nextInt(8) != 0) {
                continue;
            }
            Object[] numbers = numbers(method, random);
            int got = answer(bank, method, numbers);
            Check.due("run " + run + ": " + method.getName(), got, answer(twin, method, numbers));
            calls++;
        }
    }

    private static int answer(HopeBank bank, Method method, Object[] numbers) throws ReflectiveOperationException {
        try {
            return (int) method.invoke(bank, numbers);
        } catch (InvocationTargetException thrown) {
            Check.due(method.getName() + java.util.Arrays.toString(numbers) + " threw " + thrown.getCause(), 1, 0);
            return 0;
        }
    }

    private static Object[] numbers(Method method, Random random) {
        Object[] numbers = new Object[method.getParameterCount()];
        for (int i = 0; i < numbers.length; i++) {
            long number = random.nextInt(10) < 8 ? random.nextInt(i == 2 ? 9 : 4) : ENDS[random.nextInt(ENDS.length)];
            if (random.nextInt(200) == 0) {
                number = random.nextLong();
            }
            if (method.getParameterTypes()[i] == long.class) {
                numbers[i] = number;
            } else {
                numbers[i] = (int) number;
            }
        }
        return numbers;
    }

    /** A town of as many lines as there may be, now and then with a byte of it changed. */
    private static String text(Random random) {
        StringBuilder text = new StringBuilder(Tell.town(1 + random.nextInt(20), random.nextInt(4), random.nextInt(10),
            random.nextInt(11)));
        for (int i = 0; i < 5; i++) {
            text.append(Tell.pig(1 + random.nextInt(60), 1 + random.nextInt(9)));
        }
        for (int i = 0; i < 8; i++) {
            text.append(Tell.hope(1 + random.nextInt(9), random.nextInt(10), random.nextInt(81)));
        }
        for (int i = 0; i < 10; i++) {
            text.append(Tell.drop(random.nextInt(8), random.nextInt(5), random.nextInt(20)));
        }
        for (int i = 0; i < 6; i++) {
            text.append(Tell.thief(random.nextInt(20), random.nextInt(5), 1 + random.nextInt(9)));
        }
        if (random.nextInt(4) == 0) {
            text.setCharAt(random.nextInt(text.length()), (char) random.nextInt(256));
        }
        return text.toString();
    }
}
