import java.io.IOException;
import java.lang.reflect.Method;
import java.lang.reflect.Modifier;
import java.nio.file.Files;
import java.nio.file.Path;
import java.util.HashSet;
import java.util.List;
import java.util.Set;
import java.util.regex.Matcher;
import java.util.regex.Pattern;

/** README.md: its tables name each call as the class has it, and the calls of its examples answer what it says. */
public final class ReadmeTest {
    private static final Pattern ROW = Pattern.compile("\\| `(\\w+)\\(([^)]*)\\)` \\| .*");
    private static final Pattern TEXT = Pattern.compile("String text = \"([^\"]*)\";.*");
    private static final Pattern CALL = Pattern.compile("x\\.(\\w+)\\(([^)]*)\\);\\s*// (-?\\d+): .*");
    private static final String FEED = "    x.feed(text.charAt(i));";

    // The object and the text of the example that is being read.
    private DayKnown x;
    private String text = "";
    private final Set<String> made = new HashSet<>();

    public static void main(String[] args) throws IOException, ReflectiveOperationException {
        List<String> lines = Files.readAllLines(Path.of("README.md"));
        tables(lines);
        new ReadmeTest().examples(lines);
        Due.end();
    }

    private static void tables(List<String> lines) {
        int rows = 0;
        Set<String> named = new HashSet<>();
        for (String line : lines) {
            Matcher row = ROW.matcher(line);
            if (row.matches()) {
                rows++;
                Method call = callOf(row.group(1));
                int given = row.group(2).isEmpty() ? 0 : row.group(2).split(", ").length;
                Due.holds("there is a call " + row.group(1), call != null);
                Due.is(row.group(1) + " takes", call == null ? -1 : call.getParameterCount(), given);
                named.add(row.group(1));
            }
        }
        Due.is("calls in the tables", rows, 27);
        for (Method call : DayKnown.class.getDeclaredMethods()) {
            if (Modifier.isPublic(call.getModifiers())) {
                Due.holds(call.getName() + " stands in a table", named.contains(call.getName()));
            }
        }
    }

    private static Method callOf(String name) {
        for (Method call : DayKnown.class.getDeclaredMethods()) {
            if (Modifier.isPublic(call.getModifiers()) && call.getName().equals(name)) {
                return call;
            }
        }
        return null;
    }

    private void examples(List<String> lines) throws ReflectiveOperationException {
        boolean isExample = false;
        for (String line : lines) {
            if (line.startsWith("```")) {
                isExample = line.equals("```java");
            } else if (isExample) {
                run(line);
            }
        }
        for (Method call : DayKnown.class.getDeclaredMethods()) {
            if (Modifier.isPublic(call.getModifiers())) {
                Due.holds(call.getName() + " stands in an example", made.contains(call.getName()));
            }
        }
    }

    private void run(String line) throws ReflectiveOperationException {
        Matcher itsText = TEXT.matcher(line);
        Matcher call = CALL.matcher(line);
        if (line.equals("DayKnown x = new DayKnown();")) {
            x = new DayKnown();
        } else if (itsText.matches()) {
            text = itsText.group(1);
        } else if (line.equals(FEED)) {
            for (int i = 0; i < text.length(); i++) {
                Due.is("feed", x.feed(text.charAt(i)), i + 1);
            }
            made.add("feed");
        } else if (call.matches()) {
            made.add(call.group(1));
            Due.is(line, answer(callOf(call.group(1)), call.group(2)), Integer.parseInt(call.group(3)));
        } else {
            Due.holds("a line of an example that is not read: " + line, line.startsWith("for (int i = 0;")
                || line.equals("}"));
        }
    }

    private int answer(Method call, String arguments) throws ReflectiveOperationException {
        String[] parts = arguments.isEmpty() ? new String[0] : arguments.split(", ");
        Object[] given = new Object[parts.length];
        for (int i = 0; i < parts.length; i++) {
            boolean isNumber = parts[i].matches("-?\\d+");
            given[i] = isNumber ? (Object) Integer.valueOf(parts[i]) : Boolean.valueOf(parts[i]);
        }
        return (int) call.invoke(x, given);
    }
}
