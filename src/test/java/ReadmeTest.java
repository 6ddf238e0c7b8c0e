import java.io.IOException;
import java.lang.reflect.InvocationTargetException;
import java.lang.reflect.Method;
import java.lang.reflect.Modifier;
import java.nio.charset.StandardCharsets;
import java.nio.file.Files;
import java.nio.file.Path;
import java.util.ArrayList;
import java.util.HashMap;
import java.util.List;
import java.util.Map;
import java.util.Set;
import java.util.TreeSet;
import java.util.regex.Matcher;
import java.util.regex.Pattern;

/**
 * Goes through the example of README.md: makes the call of each line and compares its answer with the
 * one that the line tells. A line that is not understood is a wrong one, so none is passed over.
 */
public final class ReadmeTest {
    private static final String MADE = "HoleFiller desk = new HoleFiller();";
    /** A name for the answer, or none; the call; its arguments; 'answers' or 'throws', and what. */
    private static final Pattern LINE = Pattern.compile(
        "(?:int (\\w+) = )?desk\\.(\\w+)\\(([^()]*)\\); +// (answers|throws) (-?\\w+)(?:: .*)?");

    private final HoleFiller desk = new HoleFiller();
    private final Map<String, Integer> names = new HashMap<>();
    private final Set<String> called = new TreeSet<>();

    private static List<String> exampleOf(Path readme) throws IOException {
        List<String> example = new ArrayList<>();
        boolean inside = false;
        for (String line : Files.readAllLines(readme, StandardCharsets.UTF_8)) {
            if (line.startsWith("```")) {
                inside = line.equals("```java");
            } else if (inside) {
                example.add(line);
            }
        }
        return example;
    }

    private void goThrough(String line) {
        Check.part("README.md, '" + line + "'");
        Matcher m = LINE.matcher(line);
        if (!m.matches()) {
            Check.fail("the line is no call with an answer");
            return;
        }
        String answer = answerOf(m.group(2), m.group(3));
        Check.due("the call", m.group(4) + " " + m.group(5), answer);
        if (m.group(1) != null && answer.matches("answers -?\\d+")) {
            names.put(m.group(1), Integer.parseInt(answer.substring("answers ".length())));
        }
    }

    private String answerOf(String name, String written) {
        String[] parts = written.isEmpty() ? new String[0] : written.split(", ");
        Object[] arguments = new Object[parts.length];
        Class<?>[] types = new Class<?>[parts.length];
        for (int i = 0; i < parts.length; i++) {
            types[i] = int.class;
            arguments[i] = parts[i].matches("-?\\d+") ? Integer.valueOf(parts[i]) : names.get(parts[i]);
            if (arguments[i] == null) return parts[i] + " is not known";
        }
        try {
            Method method = HoleFiller.class.getMethod(name, types);
            called.add(name);
            return "answers " + method.invoke(desk, arguments);
        } catch (InvocationTargetException e) {
            return "throws " + e.getCause().getClass().getSimpleName();
        } catch (ReflectiveOperationException e) {
            return "there is no such call";
        }
    }

    private void everyMethodIsShown() {
        Check.part("README.md, the example");
        Set<String> all = new TreeSet<>();
        for (Method m : HoleFiller.class.getDeclaredMethods()) {
            if (Modifier.isPublic(m.getModifiers())) all.add(m.getName());
        }
        Check.due("the methods that it calls", all.toString(), called.toString());
    }

    public static void main(String[] args) throws IOException {
        List<String> example = exampleOf(Path.of("README.md"));
        Check.part("README.md, the example");
        Check.due("its first line", MADE, example.isEmpty() ? "nothing" : example.get(0));
        ReadmeTest test = new ReadmeTest();
        for (int i = 1; i < example.size(); i++) {
            String line = example.get(i);
            if (!line.isEmpty() && !line.startsWith("//")) test.goThrough(line);
        }
        test.everyMethodIsShown();
        Check.end();
    }
}
