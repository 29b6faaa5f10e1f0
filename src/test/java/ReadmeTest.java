import java.io.IOException;
import java.lang.reflect.Method;
import java.nio.file.Files;
import java.nio.file.Path;
import java.util.regex.Matcher;
import java.util.regex.Pattern;

/** What README.md tells of each call under "Use" is what the call answers. */
public final class ReadmeTest {
    private static final Pattern BLOCK = Pattern.compile("(?s)```java\n(.*?)```");
    private static final Pattern LINE = Pattern.compile("x\\.(\\w+)\\((.*)\\); +// (-?\\d+|true|false): \\S.*");
    private static final Check CHECK = new Check("readme");

    private ReadmeTest() {
    }

    public static void main(String[] args) throws IOException, ReflectiveOperationException {
        Matcher block = BLOCK.matcher(Files.readString(Path.of("README.md")));
        CHECK.due("an example", block.find(), true);
        DataShrinker x = null;
        for (String line : block.group(1).split("\n")) {
            if (line.equals("DataShrinker x = new DataShrinker();")) {
                x = new DataShrinker();
            } else {
                look(x, line);
            }
        }
        CHECK.end();
    }

    private static void look(DataShrinker x, String line) throws ReflectiveOperationException {
        Matcher told = LINE.matcher(line);
        CHECK.due("'" + line + "' tells a call and its answer", told.matches(), true);
        String[] given = told.group(2).isEmpty() ? new String[0] : told.group(2).split(", ");
        Object answer = ask(x, told.group(1), given);
        CHECK.due("'" + line + "' with " + answer, String.valueOf(answer).equals(told.group(3)), true);
    }

    private static Object ask(DataShrinker x, String name, String[] given) throws ReflectiveOperationException {
        for (Method method : DataShrinker.class.getMethods()) {
            if (method.getName().equals(name) && method.getParameterCount() == given.length) {
                Object[] values = new Object[given.length];
                for (int i = 0; i < given.length; i++) {
                    values[i] = valueOf(given[i], method.getParameterTypes()[i]);
                }
                return method.invoke(x, values);
            }
        }
        return "no such call";
    }

    private static Object valueOf(String text, Class<?> type) {
        if (type == boolean.class) {
            return Boolean.valueOf(text);
        }
        return type == int.class ? (Object) Integer.decode(text) : (Object) Long.decode(text.replace("L", ""));
    }
}
