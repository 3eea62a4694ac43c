import java.io.IOException;
import java.lang.reflect.Method;
import java.lang.reflect.Modifier;
import java.nio.file.Files;
import java.nio.file.Path;
import java.util.ArrayList;
import java.util.List;
import java.util.TreeSet;
import java.util.regex.Matcher;
import java.util.regex.Pattern;
import java.util.stream.Stream;

/** README.md tells the truth: its example's answers, its list of calls, and the command for the tests. */
public final class ReadmeTest {
    private static final Pattern EXAMPLE = Pattern.compile("(?s)```java\\n(.*?)```");
    private static final Pattern CALL = Pattern.compile("store\\.(\\w+)\\(([^()]*)\\); +// (\\S+): .+");
    private static final Pattern ROW = Pattern.compile("(?m)^\\| `(\\w+)\\(([^()]*)\\)` \\|");
    private static final Pattern TESTS = Pattern.compile("(?s)\\n## Tests\\n\\n    ([^\\n]+)\\n\\n(.*)");

    public static void main(String[] args) throws IOException, ReflectiveOperationException {
        String readme = Files.readString(Path.of("README.md"));
        example(readme);
        listOfCalls(readme);
        commandForTheTests(readme);
        namesOfTests(readme);
        Checks.end();
    }

    private static void example(String readme) throws ReflectiveOperationException {
        Checks.sentence("README.md: Each line tells what the call answers");
        Matcher block = EXAMPLE.matcher(readme);
        boolean found = block.find();
        Checks.due("there is an example", found, true);
        String[] lines = found ? block.group(1).split("\n") : new String[] {""};
        Checks.due("it makes a store: " + lines[0], lines[0].equals("CowStore store = new CowStore();"), true);
        CowStore store = new CowStore();
        for (int i = 1; i < lines.length; i++) {
            Matcher call = CALL.matcher(lines[i]);
            boolean isCall = call.matches();
            Checks.due("a call with its answer: " + lines[i], isCall, true);
            if (isCall) {
                Object got = answer(store, call.group(1), call.group(2));
                Checks.due(lines[i] + " answered " + got, got.toString().equals(call.group(3)), true);
            }
        }
    }

    private static Object answer(CowStore store, String name, String arguments) throws ReflectiveOperationException {
        List<Object> values = new ArrayList<>();
        List<Class<?>> types = new ArrayList<>();
        for (String argument : parts(arguments)) {
            boolean isTruth = argument.equals("true") || argument.equals("false");
            types.add(isTruth ? boolean.class : int.class);
            values.add(isTruth ? (Object) Boolean.valueOf(argument) : (Object) Integer.valueOf(argument));
        }
        Method method = CowStore.class.getMethod(name, types.toArray(new Class<?>[0]));
        return method.invoke(store, values.toArray());
    }

    private static String[] parts(String arguments) {
        return arguments.isEmpty() ? new String[0] : arguments.split(", ");
    }

    private static void listOfCalls(String readme) {
        Checks.sentence("README.md: the list of calls");
        TreeSet<String> told = new TreeSet<>();
        Matcher row = ROW.matcher(readme);
        while (row.find()) {
            told.add(row.group(1) + " with " + parts(row.group(2)).length);
        }
        TreeSet<String> there = new TreeSet<>();
        for (Method method : CowStore.class.getDeclaredMethods()) {
            if (Modifier.isPublic(method.getModifiers())) {
                there.add(method.getName() + " with " + method.getParameterCount());
            }
        }
        Checks.due(told + " against " + there, told.equals(there), true);
    }

    private static void commandForTheTests(String readme) throws IOException {
        Checks.sentence("README.md: the command that runs all tests");
        Matcher tests = TESTS.matcher(readme);
        String command = tests.find() ? tests.group(1) : "";
        Checks.due("it is .ci/run, not '" + command + "'", command.equals(".ci/run"), true);
        Path script = Path.of(".ci/run");
        Checks.due(".ci/run can be run", Files.isExecutable(script), true);
        String text = Files.readString(script);
        Checks.due("it takes all tests of the project", text.contains("(src/test/java/*Test.java)"), true);
        Checks.due("it takes all shared tests", text.contains("(../shared/tests/**/*.java)"), true);
    }

    private static void namesOfTests(String readme) throws IOException {
        Checks.sentence("README.md: the list of tests");
        TreeSet<String> told = new TreeSet<>();
        Matcher tests = TESTS.matcher(readme);
        Matcher name = Pattern.compile("`(\\w+Test)`").matcher(tests.find() ? tests.group(2) : "");
        while (name.find()) {
            told.add(name.group(1) + ".java");
        }
        TreeSet<String> there = new TreeSet<>();
        try (Stream<Path> files = Files.list(Path.of("src/test/java"))) {
            files.map(file -> file.getFileName().toString()).filter(file -> file.endsWith("Test.java")).forEach(there::add);
        }
        Checks.due(told + " against " + there, told.equals(there), true);
    }
}
