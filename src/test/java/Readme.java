import java.io.IOException;
import java.lang.reflect.Method;
import java.nio.file.Files;
import java.nio.file.Path;
import java.util.regex.Matcher;
import java.util.regex.Pattern;

/** Carries out the calls of README.md's example and compares the answers with those that it tells. */
public final class Readme {
    private static final Pattern CALL = Pattern.compile("x\\.(\\w+)\\(([-0-9, ]*)\\);\\s*// (-?\\w+).*");

    public static void main(String[] args) throws IOException, ReflectiveOperationException {
        StripeDisk x = new StripeDisk();
        int calls = 0;
        int wrong = 0;
        for (String line : Files.readAllLines(Path.of("README.md"))) {
            Matcher call = CALL.matcher(line);
            if (call.matches()) {
                calls++;
                int got = answer(x, call.group(1), call.group(2));
                if (got != told(call.group(3))) {
                    wrong++;
                    System.out.println("answered " + got + ": " + line);
                }
            } else if (line.startsWith("x.")) {
                wrong++;
                System.out.println("tells no answer: " + line);
            }
        }
        boolean holds = calls > 0 && wrong == 0;
        System.out.println(holds ? "the example holds" : "the example does not hold");
        if (!holds) {
            System.exit(1);
        }
    }

    private static int told(String answer) {
        switch (answer) {
            case "BAD":
                return StripeDisk.BAD;
            case "OFF":
                return StripeDisk.OFF;
            case "MANY":
                return StripeDisk.MANY;
            default:
                return Integer.parseInt(answer);
        }
    }

    private static int answer(StripeDisk x, String name, String written) throws ReflectiveOperationException {
        String[] numbers = written.isEmpty() ? new String[0] : written.split(", ");
        for (Method method : StripeDisk.class.getMethods()) {
            if (method.getName().equals(name) && method.getParameterCount() == numbers.length) {
                Object[] values = new Object[numbers.length];
                for (int i = 0; i < numbers.length; i++) {
                    boolean isLong = method.getParameterTypes()[i] == long.class;
                    values[i] = isLong ? (Object) Long.valueOf(numbers[i]) : Integer.valueOf(numbers[i]);
                }
                return (int) method.invoke(x, values);
            }
        }
        throw new NoSuchMethodException(name);
    }
}
