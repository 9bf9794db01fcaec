import java.io.File;
import java.io.IOException;
import java.lang.reflect.Method;
import java.lang.reflect.Modifier;
import java.nio.file.Files;
import java.nio.file.Path;
import java.util.HashMap;
import java.util.Map;
import java.util.Set;
import java.util.TreeSet;
import java.util.regex.Matcher;
import java.util.regex.Pattern;

/** README.md: its run of calls answers what it says, and it names every call and every test. */
public final class ReadmeTest {
    private static final Due DUE = new Due();
    private static final String MAKING = "WallPlanner planner = new WallPlanner();";
    private static final Pattern CALL = Pattern.compile(
        "(?:int (\\w+) = )?planner\\.(\\w+)\\(([^()]*)\\); +// (-?\\d+|true|false)(?:, .+)?");

    private final WallPlanner planner = new WallPlanner();
    private final Map<String, String> values = new HashMap<>();
    private final Set<String> called = new TreeSet<>();

    public static void main(String[] args) throws IOException, ReflectiveOperationException {
        String readme = Files.readString(Path.of("README.md"));
        new ReadmeTest().run(readme);
        testsAreNamed(readme);
        DUE.end();
    }

    private void run(String readme) throws ReflectiveOperationException {
        Matcher block = Pattern.compile("(?s)```java\n(.*?)```").matcher(readme);
        DUE.yes("README has a run of calls", block.find());
        for (String line : block.group(1).split("\n")) {
            Matcher call = CALL.matcher(line);
            if (call.matches()) {
                answer(line, call);
            } else {
                DUE.yes("README: " + line, line.isBlank() || line.startsWith("// ") || line.equals(MAKING));
            }
        }
        for (Method method : WallPlanner.class.getDeclaredMethods()) {
            boolean hidden = Modifier.isPrivate(method.getModifiers());
            DUE.yes("README's run calls " + method.getName(), hidden || called.contains(method.getName()));
        }
    }

    private void answer(String line, Matcher call) throws ReflectiveOperationException {
        String[] words = call.group(3).split(", ");
        for (Method method : WallPlanner.class.getMethods()) {
            if (method.getName().equals(call.group(2)) && method.getParameterCount() == words.length) {
                String got = String.valueOf(method.invoke(planner, arguments(method, words)));
                DUE.yes("README: " + line + " (it answered " + got + ")", got.equals(call.group(4)));
                called.add(method.getName());
                if (call.group(1) != null) {
                    values.put(call.group(1), got);
                }
                return;
            }
        }
        DUE.yes("README: there is no such call: " + line, false);
    }

    private Object[] arguments(Method method, String[] words) {
        Object[] arguments = new Object[words.length];
        for (int i = 0; i < words.length; i++) {
            String word = values.getOrDefault(words[i], words[i]);
            boolean isInt = method.getParameterTypes()[i] == int.class;
            arguments[i] = isInt ? (Object) Integer.valueOf(word) : (Object) Boolean.valueOf(word);
        }
        return arguments;
    }

    private static void testsAreNamed(String readme) {
        Set<String> there = new TreeSet<>();
        for (File file : new File("src/test/java").listFiles()) {
            String name = file.getName().replace(".java", "");
            there.add(name);
            DUE.yes("README names " + name, readme.contains("`" + name + "`"));
        }
        Matcher named = Pattern.compile("`(\\w+Test)`").matcher(readme);
        while (named.find()) {
            DUE.yes("there is a test " + named.group(1), there.contains(named.group(1)));
        }
        DUE.yes("README says how to run the tests", readme.contains("\n    .ci/run\n") && new File(".ci/run").canExecute());
    }
}
