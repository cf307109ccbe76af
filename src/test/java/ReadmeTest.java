import java.io.IOException;
import java.lang.reflect.Method;
import java.lang.reflect.Modifier;
import java.nio.file.Files;
import java.nio.file.Path;
import java.util.ArrayList;
import java.util.Arrays;
import java.util.List;
import java.util.Set;
import java.util.TreeSet;
import java.util.regex.Matcher;
import java.util.regex.Pattern;

/** The examples of README.md are run as they stand there, and the tests it tells of are those there are. */
public final class ReadmeTest {
    private static final Pattern EXAMPLE = Pattern.compile("(?s)```java\n(.*?)```");
    private static final Pattern CALL = Pattern.compile("x\\.(\\w+)\\(([^)]*)\\);");
    private static final Pattern ANSWER = Pattern.compile("// (-?\\d+)(:.*)?$");

    private static final Checks CHECKS = new Checks();
    private static final Set<String> CALLED = new TreeSet<>();

    public static void main(String[] args) throws IOException, ReflectiveOperationException {
        String readme = Files.readString(Path.of("README.md"));
        Matcher example = EXAMPLE.matcher(readme);
        while (example.find()) {
            follow(example.group(1).lines().toList());
        }
        everyMethodIsShown(readme);
        everyTestIsNamed(readme);
        CHECKS.finish("ReadmeTest");
    }

    private static void follow(List<String> lines) throws ReflectiveOperationException {
        CHECKS.due("the first line", lines.get(0), "LexTables x = new LexTables();");
        LexTables x = new LexTables();
        for (String line : lines.subList(1, lines.size())) {
            Object answer = null;
            Matcher call = CALL.matcher(line);
            while (call.find()) {
                answer = answerOf(x, call.group(1), call.group(2));
            }
            Matcher told = ANSWER.matcher(line);
            if (told.find()) {
                CHECKS.due(line, String.valueOf(answer), told.group(1));
            } else {
                CHECKS.holds("an answer told, or none to tell: " + line, !line.contains("//"));
            }
        }
    }

    private static Object answerOf(LexTables x, String name, String list) throws ReflectiveOperationException {
        CALLED.add(name);
        List<Object> arguments = new ArrayList<>();
        for (String argument : list.isEmpty() ? new String[0] : list.split(", ")) {
            arguments.add(valueOf(argument));
        }
        Class<?>[] types = new Class<?>[arguments.size()];
        Arrays.fill(types, int.class);
        return LexTables.class.getMethod(name, types).invoke(x, arguments.toArray());
    }

    private static int valueOf(String argument) throws ReflectiveOperationException {
        String prefix = "LexTables.";
        return argument.startsWith(prefix)
            ? LexTables.class.getField(argument.substring(prefix.length())).getInt(null)
            : Integer.parseInt(argument);
    }

    private static void everyMethodIsShown(String readme) {
        for (Method method : LexTables.class.getDeclaredMethods()) {
            String name = method.getName();
            if (Modifier.isPublic(method.getModifiers())) {
                CHECKS.holds(name + " in an example", CALLED.contains(name));
                CHECKS.holds(name + " in the table of the calls", readme.contains("\n| `" + name + "("));
            }
        }
    }

    private static void everyTestIsNamed(String readme) throws IOException {
        try (var files = Files.list(Path.of("src/test/java"))) {
            for (Path file : files.toList()) {
                String name = file.getFileName().toString().replace(".java", "");
                if (name.endsWith("Test")) {
                    CHECKS.holds(name + " told of in README.md", readme.contains("`" + name + "`"));
                }
            }
        }
    }
}
