import java.io.IOException;
import java.lang.reflect.InvocationTargetException;
import java.lang.reflect.Method;
import java.lang.reflect.Modifier;
import java.nio.file.Files;
import java.nio.file.Path;
import java.util.ArrayList;
import java.util.List;
import java.util.Set;
import java.util.TreeMap;
import java.util.TreeSet;
import java.util.regex.Matcher;
import java.util.regex.Pattern;
import java.util.stream.Stream;

/** What README.md says: each example call has the answer that its line tells, and nothing is left out. */
public final class ReadmeTest {
    private static final String NEW_OBJECT = "HilbertHutch hutch = new HilbertHutch();";
    private static final Pattern EXAMPLE = Pattern.compile("(.*\\);) +// (answers|throws) ([\\w.]+)(: .+)?");
    private static final Pattern LOOP = Pattern.compile("for \\(int i = 0; i < (\\d+); i\\+\\+\\) \\{ (.+) \\}");
    private static final Pattern CALL = Pattern.compile("hutch\\.(\\w+)\\((.*)\\);");
    private static final Pattern EXCEPTION = Pattern.compile("Illegal\\w+Exception|IndexOutOfBoundsException");
    private static final int MOST_CALLS = 512;

    private final Checks checks = new Checks();
    private final List<String> page;
    private final TreeMap<String, Method> methods = new TreeMap<>();
    /** The names of the methods with an example that answers, and of those that throw with the exception. */
    private final Set<String> shown = new TreeSet<>();
    private HilbertHutch hutch;
    private int calls;

    private ReadmeTest(List<String> page) {
        this.page = page;
        for (Method method : HilbertHutch.class.getDeclaredMethods()) {
            if (Modifier.isPublic(method.getModifiers())) {
                methods.put(method.getName(), method);
            }
        }
    }

    public static void main(String[] args) throws IOException {
        ReadmeTest test = new ReadmeTest(Files.readAllLines(Path.of("README.md")));
        test.runExamples();
        test.lookForMethods();
        test.lookForTests();
        test.checks.end();
    }

    // ---- the examples

    private void runExamples() {
        boolean inside = false;
        for (int i = 0; i < page.size(); i++) {
            String line = page.get(i);
            checks.part("README.md, line " + (i + 1));
            if (line.startsWith("```")) {
                inside = line.equals("```java");
                hutch = null;
            } else if (inside) {
                runLine(line);
            }
        }
    }

    private void runLine(String line) {
        Matcher loop = LOOP.matcher(line);
        Matcher example = EXAMPLE.matcher(line);
        if (line.equals(NEW_OBJECT)) {
            hutch = new HilbertHutch();
            calls = 0;
        } else if (hutch == null) {
            checks.fault("there is no object: " + line);
        } else if (loop.matches()) {
            runLoop(Integer.parseInt(loop.group(1)), loop.group(2));
        } else if (example.matches()) {
            runExample(example.group(1), example.group(2).equals("throws"), example.group(3));
        } else {
            checks.fault("this is no example: " + line);
        }
    }

    /** The calls in a loop say no answer, but none of them may throw. */
    private void runLoop(int times, String body) {
        for (int i = 0; i < times; i++) {
            for (String call : body.split("(?<=;) ")) {
                String asked = call.replaceAll("\\bi\\b", "" + i);
                if (isException(answerOf(asked))) {
                    checks.fault(asked + " throws");
                }
            }
        }
    }

    private void runExample(String call, boolean thrown, String want) {
        String answer = answerOf(call);
        checks.due(call, want, () -> answer);
        if (isException(want) != thrown) {
            checks.fault(call + " says both an answer and an exception");
        }
        Matcher parts = CALL.matcher(call);
        if (parts.matches()) {
            shown.add(thrown ? parts.group(1) + " " + want : parts.group(1));
        }
    }

    private static boolean isException(String answer) {
        return answer.endsWith("Exception");
    }

    private String answerOf(String call) {
        calls++;
        if (calls > MOST_CALLS) {
            return "nothing: the object has served " + MOST_CALLS + " calls";
        }
        Matcher parts = CALL.matcher(call);
        if (!parts.matches() || !methods.containsKey(parts.group(1))) {
            return "nothing: this is no call of the face";
        }
        Method method = methods.get(parts.group(1));
        List<Object> arguments = new ArrayList<>();
        for (String argument : parts.group(2).isEmpty() ? new String[0] : parts.group(2).split(", ")) {
            arguments.add(Integer.valueOf(argument));
        }
        if (arguments.size() != method.getParameterCount()) {
            return "nothing: this is no call of the face";
        }
        try {
            return String.valueOf(method.invoke(hutch, arguments.toArray()));
        } catch (InvocationTargetException e) {
            return e.getCause().getClass().getSimpleName();
        } catch (IllegalAccessException e) {
            return "nothing: " + e;
        }
    }

    // ---- what must be told

    /** Each method has an entry that names the exceptions it declares, and an example of all that it can do. */
    private void lookForMethods() {
        checks.part("README.md");
        checks.due("an entry of the constructor", true, () -> !entryOf("HilbertHutch()").isEmpty());
        for (Method method : methods.values()) {
            String name = method.getName();
            String entry = entryOf(method.getReturnType().getSimpleName() + " " + name + "(");
            TreeSet<String> told = new TreeSet<>();
            Matcher exceptions = EXCEPTION.matcher(entry);
            while (exceptions.find()) {
                told.add(exceptions.group());
            }
            checks.due("the exceptions told of " + name, declared(method), () -> told);
            checks.due("that " + name + " is said to throw nothing", told.isEmpty(),
                    () -> entry.contains("Throws nothing."));
            checks.due("that the answer of " + name + " is told", true, () -> entry.contains("nswers "));
            checks.due("that " + name + " has an example with an answer", true, () -> shown.contains(name));
            for (String exception : declared(method)) {
                checks.due("that " + name + " has an example with " + exception, true,
                        () -> shown.contains(name + " " + exception));
            }
        }
    }

    private static TreeSet<String> declared(Method method) {
        TreeSet<String> names = new TreeSet<>();
        for (Class<?> exception : method.getExceptionTypes()) {
            names.add(exception.getSimpleName());
        }
        return names;
    }

    /** The lines of the list's entry that begins with this code, as one text. */
    private String entryOf(String beginning) {
        StringBuilder entry = new StringBuilder();
        boolean inside = false;
        for (String line : page) {
            inside = line.startsWith("- `" + beginning) || inside && line.startsWith("  ");
            if (inside) {
                entry.append(line).append(' ');
            }
        }
        return entry.toString();
    }

    private void lookForTests() throws IOException {
        String text = String.join(" ", page);
        List<String> names;
        try (Stream<Path> files = Files.list(Path.of("src/test/java"))) {
            names = files.map(file -> file.getFileName().toString().replace(".java", "")).sorted().toList();
        }
        for (String name : names) {
            checks.due("that " + name + " is told", true, () -> text.contains("`" + name + "`"));
        }
    }
}
