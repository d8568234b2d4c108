import java.io.IOException;
import java.lang.reflect.Method;
import java.lang.reflect.Modifier;
import java.nio.file.Files;
import java.nio.file.Path;
import java.util.ArrayList;
import java.util.Arrays;
import java.util.List;
import java.util.Set;
import java.util.TreeSet;
import java.util.regex.Matcher;
import java.util.regex.Pattern;

/** The run of calls in README.md answers what README.md says beside each call. */
public final class ReadmeTest extends Checks {
    private static final String MAKING = "IndirectSheet sheet = new IndirectSheet();";
    private static final Pattern CALL = Pattern.compile("sheet\\.(\\w+)\\(([-0-9, ]*)\\); *// (true|false|-?\\d+)(:.*)?");

    public static void main(String[] args) {
        runAll(ReadmeTest.class);
    }

    static void everyCallAnswersWhatStandsBesideIt() throws Exception {
        about = "README.md";
        List<String> lines = example();
        due("a new object in the first line", lines.remove(0).equals(MAKING), true);
        IndirectSheet sheet = new IndirectSheet();
        for (String line : lines) {
            Matcher call = CALL.matcher(line);
            due("a call with its answer in the line " + line, call.matches(), true);
            if (call.matches()) {
                due(line, answer(sheet, call.group(1), call.group(2)).equals(call.group(3)), true);
            }
        }
    }

    static void everyCallOfTheFaceIsShown() throws Exception {
        about = "README.md";
        Set<String> shown = new TreeSet<>();
        for (String line : example()) {
            Matcher call = CALL.matcher(line);
            if (call.matches()) {
                shown.add(call.group(1));
            }
        }
        for (Method method : publicMethods()) {
            due("a line with " + method.getName(), shown.contains(method.getName()), true);
        }
    }

    /** The lines of the one block of Java; .ci/run starts each test from the top of the project. */
    private static List<String> example() throws IOException {
        List<String> all = Files.readAllLines(Path.of("README.md"));
        int start = all.indexOf("```java");
        int end = start + all.subList(start, all.size()).indexOf("```");
        return new ArrayList<>(all.subList(start + 1, end));
    }

    private static String answer(IndirectSheet sheet, String name, String numbers) throws Exception {
        Object[] arguments = numbers.isEmpty() ? new Object[0]
            : Arrays.stream(numbers.split(", ")).map(Integer::valueOf).toArray();
        for (Method method : publicMethods()) {
            if (method.getName().equals(name) && method.getParameterCount() == arguments.length) {
                return String.valueOf(method.invoke(sheet, arguments));
            }
        }
        return "nothing: there is no such call";
    }

    private static List<Method> publicMethods() {
        List<Method> methods = new ArrayList<>();
        for (Method method : IndirectSheet.class.getDeclaredMethods()) {
            if (Modifier.isPublic(method.getModifiers())) {
                methods.add(method);
            }
        }
        return methods;
    }
}
