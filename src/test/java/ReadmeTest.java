import java.io.IOException;
import java.lang.reflect.Method;
import java.nio.file.Files;
import java.nio.file.Path;
import java.util.regex.Matcher;
import java.util.regex.Pattern;

/** The calls that README.md shows answer what it says behind them. */
public final class ReadmeTest extends Checks {
    private static final Pattern CALL = Pattern.compile("rides\\.(\\w+)\\((.*)\\); +// (-?\\d+|[A-Z_]+).*");

    public static void main(String[] args) throws IOException, ReflectiveOperationException {
        part = "README.md";
        SharedRides rides = new SharedRides();
        int calls = 0;
        for (String line : Files.readAllLines(Path.of("README.md"))) {
            Matcher call = CALL.matcher(line);
            if (call.matches()) {
                calls++;
                due(answer(call.group(3)), made(rides, call.group(1), call.group(2)), line);
            } else if (line.startsWith("rides.")) {
                due(0, 1, "a call without an answer: " + line);
            }
        }
        if (calls == 0) due(1, 0, "how many calls there are");
        end("the README's calls answer as it says");
    }

    private static int answer(String text) throws ReflectiveOperationException {
        return Character.isLetter(text.charAt(0)) ? SharedRides.class.getField(text).getInt(null) : Integer.parseInt(text);
    }

    private static int made(SharedRides rides, String name, String list) throws ReflectiveOperationException {
        String[] texts = list.isEmpty() ? new String[0] : list.split(", ");
        Object[] arguments = new Object[texts.length];
        for (int k = 0; k < texts.length; k++) {
            boolean truth = texts[k].equals("true") || texts[k].equals("false");
            arguments[k] = truth ? (Object) Boolean.valueOf(texts[k]) : (Object) Integer.valueOf(texts[k]);
        }
        for (Method method : SharedRides.class.getMethods()) {
            if (method.getName().equals(name)) return (int) method.invoke(rides, arguments);
        }
        throw new NoSuchMethodException(name);
    }
}
