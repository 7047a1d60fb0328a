import java.io.IOException;
import java.lang.reflect.Method;
import java.lang.reflect.Modifier;
import java.nio.file.Files;
import java.nio.file.Path;
import java.util.List;
import java.util.regex.Matcher;
import java.util.regex.Pattern;
import java.util.stream.Stream;

/** README.md: its example answers what it says, and its tables leave no method and no test out. */
public final class ReadmeTest {
    private static final Check CHECK = new Check("ReadmeTest");
    private static final Pattern CALL = Pattern.compile("volume\\.(\\w+)\\(([^)]*)\\);\\s*// (?:throws )?(-?\\w+).*");
    private static final String NEW_OBJECT = "AppendedVolume volume = new AppendedVolume();";

    public static void main(String[] args) throws IOException {
        String readme = Files.readString(Path.of("README.md"));
        example(readme.substring(readme.indexOf("```java") + 7, readme.lastIndexOf("```")));
        methods(readme);
        tests(readme);
        CHECK.end();
    }

    private static void example(String text) {
        AppendedVolume volume = new AppendedVolume();
        int calls = 0;
        for (String line : text.split("\n")) {
            Matcher matcher = CALL.matcher(line);
            if (matcher.matches()) {
                calls++;
                String got = Calls.answer(volume, matcher.group(1), numbers(matcher.group(2)));
                String due = matcher.group(1).equals("reset") ? "null" : matcher.group(3);
                CHECK.holds(got.equals(due), "answered " + got + " to " + line);
            } else {
                CHECK.holds(line.isEmpty() || line.startsWith(NEW_OBJECT), "what is due is not told: " + line);
            }
        }
        CHECK.holds(calls > 0, "the example makes no call");
    }

    private static int[] numbers(String text) {
        return Stream.of(text.split(", *")).filter(word -> !word.isEmpty()).mapToInt(Integer::parseInt).toArray();
    }

    private static void methods(String readme) {
        for (Method method : AppendedVolume.class.getDeclaredMethods()) {
            boolean named = readme.contains("`" + method.getName() + "`");
            CHECK.holds(named || !Modifier.isPublic(method.getModifiers()), "no table names " + method.getName());
        }
    }

    private static void tests(String readme) throws IOException {
        try (Stream<Path> files = Files.list(Path.of("src/test/java"))) {
            List<String> names = files.map(file -> file.getFileName().toString().replace(".java", "")).toList();
            for (String name : names) {
                CHECK.holds(!name.endsWith("Test") || readme.contains("| " + name + " |"), "no table names " + name);
            }
        }
    }
}
