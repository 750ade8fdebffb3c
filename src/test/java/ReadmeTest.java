import java.lang.reflect.Method;
import java.lang.reflect.Modifier;
import java.nio.file.Files;
import java.nio.file.Path;
import java.util.List;
import java.util.regex.Matcher;
import java.util.regex.Pattern;
import java.util.stream.Stream;

/** README.md: its example answers as it tells, and it names every call and every test. It runs in the project's directory. */
public final class ReadmeTest {
    private static final Pattern ROW = Pattern.compile("guard\\.(\\w+)\\(([^()]*)\\); // (-?\\d+|true|false)\\b.*");
    private static final Due due = new Due();

    public static void main(String[] args) throws Exception {
        String text = Files.readString(Path.of("README.md"));
        example(text.substring(text.indexOf("```java\n") + 8, text.indexOf("```\n")));
        namesEveryCall(text);
        namesEveryTest(text);
        due.finish();
    }

    private static void example(String code) {
        DoorGuard guard = new DoorGuard();
        int calls = 0;
        for (String line : code.split("\n")) {
            Matcher row = ROW.matcher(line);
            if (row.matches()) {
                Call call = new Call(row.group(1), numbers(row.group(2)));
                due.is(call.toString(), call.on(guard), number(row.group(3)));
                calls++;
            } else {
                due.is("'" + line + "' is a call whose answer is not told", line.startsWith("guard."), false);
            }
        }
        due.is("the example has calls", calls > 20, true);
    }

    private static int[] numbers(String arguments) {
        return Stream.of(arguments.split(", *")).filter(one -> !one.isEmpty()).mapToInt(ReadmeTest::number).toArray();
    }

    private static int number(String text) {
        return switch (text) {
            case "true" -> 1;
            case "false" -> 0;
            case "DoorGuard.NONE" -> DoorGuard.NONE;
            default -> Integer.decode(text);
        };
    }

    private static void namesEveryCall(String text) {
        for (Method method : DoorGuard.class.getDeclaredMethods()) {
            if (Modifier.isPublic(method.getModifiers())) {
                due.is("README.md names " + method.getName(), text.contains("`" + method.getName() + "("), true);
            }
        }
    }

    private static void namesEveryTest(String text) throws Exception {
        try (Stream<Path> files = Files.list(Path.of("src/test/java"))) {
            List<String> names = files.map(file -> file.getFileName().toString()).toList();
            for (String name : names) {
                boolean isTest = name.endsWith("Test.java");
                due.is("README.md names " + name, !isTest || text.contains("| `" + name.replace(".java", "") + "` |"), true);
            }
        }
    }
}
