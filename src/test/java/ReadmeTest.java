import java.io.IOException;
import java.lang.reflect.InvocationTargetException;
import java.lang.reflect.Method;
import java.nio.charset.StandardCharsets;
import java.nio.file.Files;
import java.nio.file.Path;
import java.util.Set;
import java.util.TreeSet;
import java.util.regex.Matcher;
import java.util.regex.Pattern;
import java.util.stream.Collectors;
import java.util.stream.Stream;

/** What README.md says is true: its calls answer what stands behind them, and what it names is there. */
public final class ReadmeTest extends Checks {
    private static final Path TESTS = Path.of("src", "test", "java");
    private static final Pattern CALL = Pattern.compile("counter\\.(\\w+)\\((.*)\\); *// (-?\\w+)(:.*)?");
    private static final Pattern NAME = Pattern.compile("`([A-Z]\\w+)`");
    private static final Pattern METHOD = Pattern.compile("`([a-z]\\w+)(\\(\\))?`");
    /** Programs that it names beside methods of the class. */
    private static final Set<String> PROGRAMS = Set.of("java", "javac");

    private ReadmeTest() {
    }

    public static void main(String[] args) throws IOException {
        String readme = Files.readString(Path.of("README.md"), StandardCharsets.UTF_8);
        callsAnswer(readme);
        namesAreThere(readme);
        everyTestIsNamed(readme);
        end("ReadmeTest");
    }

    private static void callsAnswer(String readme) {
        GateCounter counter = new GateCounter();
        for (String line : readme.lines().filter(each -> each.startsWith("counter.")).toList()) {
            about = line;
            Matcher call = CALL.matcher(line);
            due(true, () -> call.matches());
            if (call.matches()) {
                due(call.group(3), () -> made(counter, call.group(1), call.group(2)));
            }
        }
        about = "the calls of README.md";
        due(true, () -> counter.count(8) > 0);
        due("p2:1xxxxx", () -> text(counter, 9));
    }

    /** A call of a method by its name, whose arguments are numbers. */
    private static Object made(GateCounter counter, String name, String told) throws ReflectiveOperationException {
        String[] numbers = told.isEmpty() ? new String[0] : told.split(", ");
        Object[] arguments = Stream.of(numbers).map(number -> (Object) Integer.decode(number)).toArray();
        for (Method method : GateCounter.class.getMethods()) {
            if (method.getName().equals(name) && method.getParameterCount() == arguments.length) {
                try {
                    return method.invoke(counter, arguments);
                } catch (InvocationTargetException e) {
                    return e.getCause().getClass().getSimpleName();
                }
            }
        }
        return "no such method";
    }

    private static void namesAreThere(String readme) throws IOException {
        Set<String> classes = new TreeSet<>(tests());
        Set<String> methods = new TreeSet<>(PROGRAMS);
        for (Class<?> inside : GateCounter.class.getDeclaredClasses()) {
            classes.add(inside.getSimpleName());
        }
        for (Method method : GateCounter.class.getMethods()) {
            methods.add(method.getName());
        }
        about = "what README.md names";
        for (Matcher name = NAME.matcher(readme); name.find();) {
            String told = name.group(1);
            due(told + " true", () -> told + " " + classes.contains(told));
        }
        for (Matcher name = METHOD.matcher(readme); name.find();) {
            String told = name.group(1);
            due(told + " true", () -> told + " " + methods.contains(told));
        }
        for (Class<?> inside : GateCounter.class.getDeclaredClasses()) {
            due(true, () -> readme.contains("`" + inside.getSimpleName() + "`"));
        }
    }

    private static void everyTestIsNamed(String readme) throws IOException {
        for (String test : tests()) {
            about = test;
            due(true, () -> !test.endsWith("Test") || readme.contains("- `" + test + "`:"));
        }
    }

    private static Set<String> tests() throws IOException {
        try (Stream<Path> files = Files.list(TESTS)) {
            return files.map(file -> file.getFileName().toString().replace(".java", "")).collect(Collectors.toSet());
        }
    }
}
