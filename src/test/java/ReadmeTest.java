import java.io.IOException;
import java.lang.reflect.Method;
import java.lang.reflect.Modifier;
import java.nio.file.Files;
import java.nio.file.Path;
import java.util.ArrayList;
import java.util.HashMap;
import java.util.List;
import java.util.Map;
import java.util.Set;
import java.util.TreeSet;
import java.util.regex.Matcher;
import java.util.regex.Pattern;

/**
 * Every example of README.md answers as README.md says. The examples are read from there, so that the two
 * cannot come apart; a line that is neither a new object nor a call with its answer is a fault too.
 */
public final class ReadmeTest {
    private static final Pattern NEW_OBJECT =
            Pattern.compile("CoalitionValues (\\w+) = new CoalitionValues\\(\\);");
    private static final Pattern CALL =
            Pattern.compile("(\\w+)\\.(\\w+)\\(([^()]*)\\);\\s+// (-?\\d+|\\w+)(: .+)?");

    private final Check check = new Check();
    private final Map<String, CoalitionValues> objects = new HashMap<>();
    private final Set<String> shown = new TreeSet<>();

    public static void main(String[] args) throws IOException, ReflectiveOperationException {
        ReadmeTest test = new ReadmeTest();
        for (String line : examples(Files.readAllLines(Path.of("README.md")))) {
            test.look(line);
        }
        test.everyCallIsShown();
        test.check.end();
    }

    private static List<String> examples(List<String> readme) {
        List<String> examples = new ArrayList<>();
        boolean inside = false;
        for (String line : readme) {
            if (line.startsWith("```")) {
                inside = line.equals("```java");
            } else if (inside && !line.isBlank()) {
                examples.add(line);
            }
        }
        return examples;
    }

    private void look(String line) throws ReflectiveOperationException {
        Matcher newObject = NEW_OBJECT.matcher(line);
        Matcher call = CALL.matcher(line);
        if (newObject.matches()) {
            objects.put(newObject.group(1), new CoalitionValues());
            return;
        }
        boolean understood = call.matches() && objects.containsKey(call.group(1));
        check.due("\"" + line + "\" is an example that can be looked at", understood, true);
        if (understood) {
            String got = answer(objects.get(call.group(1)), call.group(2), call.group(3));
            String want = value(call.group(4));
            check.due("\"" + line + "\" (it answered " + got + ")", got.equals(want), true);
        }
    }

    private String answer(CoalitionValues x, String name, String list) throws ReflectiveOperationException {
        String[] words = list.isBlank() ? new String[0] : list.split(",");
        Object[] arguments = new Object[words.length];
        Class<?>[] types = new Class<?>[words.length];
        for (int i = 0; i < words.length; i++) {
            arguments[i] = Integer.decode(words[i].trim());
            types[i] = int.class;
        }
        shown.add(name);
        return String.valueOf(CoalitionValues.class.getMethod(name, types).invoke(x, arguments));
    }

    private static String value(String answer) throws ReflectiveOperationException {
        return answer.startsWith("BAD_")
                ? String.valueOf(CoalitionValues.class.getField(answer).getInt(null))
                : answer;
    }

    private void everyCallIsShown() {
        for (Method method : CoalitionValues.class.getDeclaredMethods()) {
            if (Modifier.isPublic(method.getModifiers())) {
                check.due("README.md has an example of " + method.getName(), shown.contains(method.getName()), true);
            }
        }
    }
}
