import java.lang.reflect.InvocationTargetException;
import java.lang.reflect.Method;
import java.lang.reflect.Modifier;
import java.nio.file.Path;
import java.util.ArrayList;
import java.util.HashMap;
import java.util.List;
import java.util.Map;
import java.util.Set;
import java.util.TreeSet;
import java.util.regex.Matcher;
import java.util.regex.Pattern;

/** Makes the calls of README.md's examples; each must answer what the README says behind it. */
public final class ReadmeTest {
    private static final Path README = Path.of("README.md");
    private static final String FIRST_LINE = "LeaseQueue queues = new LeaseQueue();";
    /** A name for the answer, the method, its arguments, and what is told of it behind the slashes. */
    private static final Pattern CALL =
            Pattern.compile("(?:int (\\w+) = )?queues\\.(\\w+)\\(([^()]*)\\); *// (.+)");

    private final LeaseQueue queues = new LeaseQueue();
    private final Map<String, String> answers = new HashMap<>();

    private ReadmeTest() {
    }

    public static void main(String[] args) throws IllegalAccessException {
        Map<String, Method> face = faceByName();
        Set<String> unused = new TreeSet<>(face.keySet());
        for (List<String> example : examples()) {
            Checks.sentence("README.md");
            Checks.isTrue("an example begins with '" + FIRST_LINE + "'", example.get(0).equals(FIRST_LINE));
            ReadmeTest run = new ReadmeTest();
            for (String line : example.subList(1, example.size())) {
                Checks.sentence(line);
                Matcher call = CALL.matcher(line);
                if (call.matches() && face.containsKey(call.group(2))) {
                    run.make(call, face.get(call.group(2)));
                    unused.remove(call.group(2));
                } else {
                    Checks.report("this is no call with its answer");
                }
            }
        }
        Checks.sentence("README.md");
        Checks.isTrue("every method is in an example (there is none for " + unused + ")", unused.isEmpty());
        Checks.end();
    }

    private static Map<String, Method> faceByName() {
        Map<String, Method> face = new HashMap<>();
        for (Method method : LeaseQueue.class.getDeclaredMethods()) {
            if (Modifier.isPublic(method.getModifiers())) {
                face.put(method.getName(), method);
            }
        }
        return face;
    }

    private static List<List<String>> examples() {
        List<List<String>> examples = new ArrayList<>();
        boolean inside = false;
        for (String line : Document.linesOf(README)) {
            if (line.equals("```java")) {
                inside = true;
                examples.add(new ArrayList<>());
            } else if (line.equals("```")) {
                inside = false;
            } else if (inside) {
                examples.get(examples.size() - 1).add(line);
            }
        }
        return examples;
    }

    private void make(Matcher call, Method method) throws IllegalAccessException {
        String got = answerOf(method, argumentsOf(call.group(3), method));
        if (call.group(1) != null) {
            answers.put(call.group(1), got);
        }
        String due = method.getReturnType() == void.class ? "null" : answerToldIn(call.group(4));
        Checks.isTrue("this answer (it is " + got + ")", got.equals(due));
    }

    private static String answerToldIn(String words) {
        return words.replaceFirst(":.*", "").replace("NONE", Integer.toString(LeaseQueue.NONE));
    }

    private Object[] argumentsOf(String list, Method method) {
        String[] words = list.isEmpty() ? new String[0] : list.split(", ");
        Object[] arguments = new Object[words.length];
        for (int i = 0; i < words.length; i++) {
            String word = answers.getOrDefault(words[i], words[i]);
            arguments[i] = method.getParameterTypes()[i] == boolean.class
                    ? (Object) Boolean.valueOf(word) : (Object) Integer.valueOf(word);
        }
        return arguments;
    }

    private String answerOf(Method method, Object[] arguments) throws IllegalAccessException {
        try {
            return String.valueOf(method.invoke(queues, arguments));
        } catch (InvocationTargetException e) {
            return "throws " + e.getCause().getClass().getSimpleName();
        }
    }
}
