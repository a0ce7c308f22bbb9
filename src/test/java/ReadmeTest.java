import java.io.IOException;
import java.lang.reflect.Method;
import java.lang.reflect.Modifier;
import java.nio.file.Files;
import java.nio.file.Path;
import java.util.Set;
import java.util.TreeSet;
import java.util.regex.Matcher;
import java.util.regex.Pattern;

/** README.md: the calls of its example answer what is told behind them, and its table of calls is the face. */
public final class ReadmeTest {
    private static final Check CHECK = new Check("ReadmeTest");
    private static final Pattern CALL = Pattern.compile("office\\.(\\w+)\\(([^)]*)\\);\\s*// (-?\\d+|true|false)\\b.*");
    private static final Pattern ROW = Pattern.compile("\\| ((?:`\\w+` ?)+) \\|.*");

    public static void main(String[] args) throws IOException, ReflectiveOperationException {
        String text = Files.readString(Path.of("README.md"));
        int from = text.indexOf("```java");
        int to = text.indexOf("```", from + 3);
        CHECK.due("the example is there", from >= 0 && to > from, true);
        example(text.substring(from, to).split("\n"));
        tableOfCalls(text.substring(to).split("\n"));
        CHECK.finish();
    }

    private static void example(String[] lines) throws ReflectiveOperationException {
        CourtDraws office = new CourtDraws();
        int calls = 0;
        for (String line : lines) {
            if (!line.startsWith("office.")) {
                continue;
            }
            Matcher call = CALL.matcher(line);
            CHECK.due("a call with its answer: " + line, call.matches(), true);
            CHECK.due(line, String.valueOf(made(office, call.group(1), call.group(2).split(", "))), call.group(3));
            calls++;
        }
        CHECK.due("the example has calls", calls > 0, true);
    }

    private static Object made(CourtDraws office, String name, String[] told) throws ReflectiveOperationException {
        Method method = methodOf(name);
        Class<?>[] types = method.getParameterTypes();
        CHECK.due(name + " has as many arguments", told.length, types.length);
        Object[] given = new Object[types.length];
        for (int i = 0; i < given.length; i++) {
            if (types[i] == boolean.class) {
                given[i] = Boolean.valueOf(told[i]);
            } else {
                given[i] = Integer.valueOf(told[i]);
            }
        }
        return method.invoke(office, given);
    }

    private static Method methodOf(String name) throws NoSuchMethodException {
        for (Method method : CourtDraws.class.getDeclaredMethods()) {
            if (method.getName().equals(name)) {
                return method;
            }
        }
        throw new NoSuchMethodException(name);
    }

    private static void tableOfCalls(String[] lines) {
        Set<String> told = new TreeSet<>();
        for (String line : lines) {
            Matcher row = ROW.matcher(line);
            if (row.matches() && !line.contains("Test`")) {
                told.addAll(Set.of(row.group(1).replace("`", "").split(" ")));
            }
        }
        Set<String> face = new TreeSet<>();
        for (Method method : CourtDraws.class.getDeclaredMethods()) {
            if (Modifier.isPublic(method.getModifiers())) {
                face.add(method.getName());
            }
        }
        CHECK.due("the table of calls", told.toString(), face.toString());
    }
}
