import java.io.IOException;
import java.lang.reflect.InvocationTargetException;
import java.lang.reflect.Method;
import java.nio.file.Files;
import java.nio.file.Path;
import java.util.Arrays;
import java.util.List;
import java.util.regex.Matcher;
import java.util.regex.Pattern;

/** Makes the calls of the example in README.md, each line "bench.call(..); // answer: what it means". */
final class ReadmeTests {
    private static final Pattern LAID = Pattern.compile("lay\\(bench, \"(.*)\"\\);");
    private static final Pattern CALLED = Pattern.compile("bench\\.(\\w+)\\((.*)\\); +// ([^:]+).*");

    private ReadmeTests() {
    }

    static void run(String path) {
        CaseTables bench = new CaseTables();
        int calls = 0;
        for (String line : linesOf(path)) {
            Matcher laid = LAID.matcher(line);
            Matcher called = CALLED.matcher(line);
            if (laid.matches()) {
                Text.feed(bench, laid.group(1));
            } else if (called.matches()) {
                String due = called.group(3).replace("throws ", "throws.");
                Check.same("README.md: " + line, due, () -> answer(bench, called.group(1), called.group(2)));
                calls++;
            }
        }
        int found = calls;
        Check.same("README.md shows calls", true, () -> found > 0);
        for (Method method : CaseTables.class.getMethods()) {
            if (method.getDeclaringClass() == CaseTables.class) {
                Check.same("README.md shows " + method.getName(), true, () -> linesOf(path).stream()
                        .anyMatch(line -> line.contains("bench." + method.getName() + "(")));
            }
        }
    }

    private static List<String> linesOf(String path) {
        try {
            return Files.readAllLines(Path.of(path));
        } catch (IOException e) {
            return List.of();
        }
    }

    private static Object answer(CaseTables bench, String name, String arguments) {
        String[] told = arguments.isEmpty() ? new String[0] : arguments.split(", ");
        Object[] values = Arrays.stream(told).map(ReadmeTests::valueOf).toArray();
        for (Method method : CaseTables.class.getMethods()) {
            if (method.getName().equals(name)) {
                return answer(bench, method, values);
            }
        }
        return "no such call";
    }

    private static Object answer(CaseTables bench, Method method, Object[] values) {
        try {
            return method.invoke(bench, values);
        } catch (InvocationTargetException e) {
            return "throws." + e.getCause().getClass().getSimpleName();
        } catch (IllegalAccessException e) {
            return "no access";
        }
    }

    private static Object valueOf(String argument) {
        if (argument.equals("true") || argument.equals("false")) {
            return argument.equals("true");
        }
        return Integer.valueOf(argument);
    }
}
