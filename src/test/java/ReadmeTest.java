import java.lang.reflect.Method;
import java.nio.file.Files;
import java.nio.file.Path;
import java.util.regex.Matcher;
import java.util.regex.Pattern;

/** The calls of README.md answer the numbers that stand behind them there, in their order. */
public final class ReadmeTest {
    private static final Pattern TOLD = Pattern.compile("tell\\(bank, ([^)]*)\\);");
    private static final Pattern CALL = Pattern.compile("bank\\.(\\w+)\\(([^)]*)\\); +// (-?\\d+)");

    public static void main(String[] args) throws Exception {
        String page = Files.readString(Path.of("README.md"));
        Matcher steps = Pattern.compile(TOLD.pattern() + "|" + CALL.pattern()).matcher(page);
        HopeBank bank = new HopeBank();
        int calls = 0;
        while (steps.find()) {
            if (steps.group(1) != null) {
                Check.feed(bank, literals(steps.group(1)));
            } else {
                Check.due("README: " + steps.group(), answer(bank, steps.group(2), steps.group(3)),
                    Integer.parseInt(steps.group(4)));
                calls++;
            }
        }
        Check.due("calls with an answer in README.md", Math.min(calls, 20), 20);
        Check.close();
    }

    private static String literals(String expression) {
        StringBuilder text = new StringBuilder();
        Matcher literal = Pattern.compile("\"([^\"]*)\"").matcher(expression);
        while (literal.find()) {
            text.append(literal.group(1));
        }
        return text.toString();
    }

    private static int answer(HopeBank bank, String name, String arguments) throws Exception {
        String[] numbers = arguments.isEmpty() ? new String[0] : arguments.split(", ");
        for (Method method : HopeBank.class.getMethods()) {
            if (method.getName().equals(name) && method.getParameterCount() == numbers.length) {
                Object[] values = new Object[numbers.length];
                for (int i = 0; i < values.length; i++) {
                    long value = Long.parseLong(numbers[i]);
                    values[i] = method.getParameterTypes()[i] == long.class ? (Object) value : (Object) (int) value;
                }
                return (int) method.invoke(bank, values);
            }
        }
        throw new IllegalArgumentException("README calls what the class has not: " + name);
    }
}
