import java.io.IOException;
import java.lang.reflect.Method;
import java.lang.reflect.Modifier;
import java.nio.file.Files;
import java.nio.file.Path;
import java.util.Map;
import java.util.Set;
import java.util.TreeMap;
import java.util.TreeSet;
import java.util.regex.Matcher;
import java.util.regex.Pattern;

/** README.md: the calls that it shows as an example answer what it says. */
final class ReadmeTest {
    private static final String NEW_DESK = "ExactTransformDesk desk = new ExactTransformDesk();";
    private static final String NUMBER = "-?\\d+";
    /** A call and its answer; words may follow the answer after a colon. */
    private static final Pattern CALL = Pattern.compile(
        "desk\\.(\\w+)\\(([^()]*)\\); +// (true|false|" + NUMBER + ")(: .*)?");

    private final Map<String, Method> methods = new TreeMap<>();
    private final Set<String> shown = new TreeSet<>();
    private ExactTransformDesk desk = null;

    private ReadmeTest() {
        for (Method method : ExactTransformDesk.class.getDeclaredMethods()) {
            if (Modifier.isPublic(method.getModifiers())) {
                methods.put(method.getName(), method);
            }
        }
    }

    /** Every row of an example must be understood, so that none can be wrong unseen. */
    private void row(String place, String text) throws ReflectiveOperationException {
        Matcher call = CALL.matcher(text);
        if (text.equals(NEW_DESK)) {
            desk = new ExactTransformDesk();
        } else if (desk == null || !call.matches() || !methods.containsKey(call.group(1))) {
            Checks.due(place + ", that it makes a desk or a call with its answer: " + text, false, true);
        } else {
            answers(place + ", " + text, methods.get(call.group(1)), call.group(2).split(", "), call.group(3));
        }
    }

    private void answers(String row, Method method, String[] words, String want) throws ReflectiveOperationException {
        Class<?>[] types = method.getParameterTypes();
        Checks.due(row + ", arguments", words.length, types.length);
        Object[] arguments = new Object[types.length];
        for (int i = 0; i < types.length; i++) {
            String word = i < words.length ? words[i] : "";
            boolean fits = word.matches(types[i] == int.class ? NUMBER : "true|false");
            Checks.due(row + ", that argument " + i + " is of type " + types[i], fits, true);
            if (!fits) {
                return;
            }
            arguments[i] = types[i] == int.class ? (Object) Integer.valueOf(word) : (Object) Boolean.valueOf(word);
        }
        String got = method.invoke(desk, arguments).toString();
        Checks.due(row + ", that it answers so and not " + got, got.equals(want), true);
        shown.add(method.getName());
    }

    private void read(Path file) throws IOException, ReflectiveOperationException {
        boolean inExample = false;
        int number = 0;
        for (String text : Files.readAllLines(file)) {
            number++;
            if (text.startsWith("```")) {
                inExample = text.equals("```java");
                desk = null;
            } else if (inExample) {
                row(file + " row " + number, text);
            }
        }
    }

    public static void main(String[] args) throws IOException, ReflectiveOperationException {
        ReadmeTest test = new ReadmeTest();
        test.read(Path.of("README.md"));
        for (String name : test.methods.keySet()) {
            Checks.due("README.md, that an example shows " + name, test.shown.contains(name), true);
        }
        Checks.finish();
    }
}
