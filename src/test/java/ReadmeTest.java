import java.io.IOException;
import java.lang.reflect.Method;
import java.lang.reflect.Modifier;
import java.nio.charset.StandardCharsets;
import java.nio.file.Files;
import java.nio.file.Path;
import java.util.Set;
import java.util.TreeSet;
import java.util.regex.Matcher;
import java.util.regex.Pattern;

/** The calls that README.md shows, one after the other on one object, answer what README.md says behind them. */
public final class ReadmeTest {
    private static final Pattern TOLD = Pattern.compile("tell\\(cheese, \"([^\"]*)\"\\);");
    private static final Pattern CALL = Pattern.compile("cheese\\.(\\w+)\\(([^)]*)\\); +// (-?\\d+): .+");

    private final Due due = new Due();
    private final CheeseFirst cheese = new CheeseFirst();
    private final Set<String> shown = new TreeSet<>();

    private static Method methodOf(String name) {
        for (Method m : CheeseFirst.class.getDeclaredMethods()) {
            if (m.getName().equals(name) && Modifier.isPublic(m.getModifiers())) {
                return m;
            }
        }
        throw new IllegalStateException("README.md shows a call that there is not: " + name);
    }

    private static long numberOf(String written) {
        return Long.decode(written.endsWith("L") ? written.substring(0, written.length() - 1) : written);
    }

    private static long answerOf(CheeseFirst cheese, String name, String written) throws ReflectiveOperationException {
        Method m = methodOf(name);
        String[] parts = written.isEmpty() ? new String[0] : written.split(", ");
        Object[] arguments = new Object[parts.length];
        for (int i = 0; i < parts.length; i++) {
            long number = numberOf(parts[i]);
            arguments[i] = m.getParameterTypes()[i] == long.class ? (Object) number : (Object) (int) number;
        }
        return ((Number) m.invoke(cheese, arguments)).longValue();
    }

    private void line(String line) throws ReflectiveOperationException {
        Matcher told = TOLD.matcher(line);
        Matcher call = CALL.matcher(line);
        if (told.matches()) {
            Due.type(cheese, told.group(1));
        } else if (call.matches()) {
            shown.add(call.group(1));
            due.due(line, answerOf(cheese, call.group(1), call.group(2)), Long.parseLong(call.group(3)));
        } else {
            due.due("a call with its answer: " + line, line.equals("CheeseFirst cheese = new CheeseFirst();") ? 1 : 0, 1);
        }
    }

    private void blocks(String page) throws ReflectiveOperationException {
        Matcher blocks = Pattern.compile("(?s)```java\n(.*?)```").matcher(page);
        while (blocks.find()) {
            // the helper that types a text is shown, but Due's own is used here
            if (!blocks.group(1).startsWith("static void tell(")) {
                for (String line : blocks.group(1).split("\n")) {
                    line(line);
                }
            }
        }
    }

    private void everyCallIsShown() {
        for (Method m : CheeseFirst.class.getDeclaredMethods()) {
            if (Modifier.isPublic(m.getModifiers())) {
                due.due("README.md shows " + m.getName(), shown.contains(m.getName()) ? 1 : 0, 1);
            }
        }
    }

    public static void main(String[] args) throws IOException, ReflectiveOperationException {
        ReadmeTest t = new ReadmeTest();
        t.blocks(Files.readString(Path.of("README.md"), StandardCharsets.UTF_8));
        t.everyCallIsShown();
        t.due.end("ReadmeTest");
    }
}
