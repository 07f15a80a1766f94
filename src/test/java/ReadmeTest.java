import java.io.IOException;
import java.lang.reflect.InvocationTargetException;
import java.lang.reflect.Method;
import java.lang.reflect.Modifier;
import java.nio.file.Files;
import java.nio.file.Path;
import java.util.List;
import java.util.regex.Matcher;
import java.util.regex.Pattern;
import java.util.stream.Collectors;
import java.util.stream.Stream;

/** Whether the calls that README.md shows answer as it says, and whether it names each call and each test there is. */
public final class ReadmeTest {
    private static final Due due = new Due("ReadmeTest");
    private static final Pattern CALL = Pattern.compile(" *knife\\.(\\w+)\\(([-\\d, ]*)\\);(?: *// (-?\\d+): .*)?");
    private static final Pattern TEXT = Pattern.compile("for \\(char c : \"(.*)\"\\.toCharArray\\(\\)\\) \\{");
    private static final Pattern TYPE = Pattern.compile(" *knife\\.type\\((\\d), c\\);.*");

    private OneKnife knife;
    private String text = "";

    public static void main(String[] args) throws IOException, InvocationTargetException, IllegalAccessException {
        String page = Files.readString(Path.of("README.md"));
        String example = page.substring(page.indexOf("```java\n") + 8);
        ReadmeTest test = new ReadmeTest();
        for (String line : example.substring(0, example.indexOf("```")).split("\n")) {
            test.go(line);
        }
        for (Method m : OneKnife.class.getDeclaredMethods()) {
            if (Modifier.isPublic(m.getModifiers())) {
                due.is("README.md names " + m.getName(), page.contains("`" + m.getName() + "`") ? 1 : 0, 1);
            }
        }
        due.is("tests that README.md names", rows(page), testsThere());
        due.end();
    }

    private void go(String line) throws InvocationTargetException, IllegalAccessException {
        Matcher text = TEXT.matcher(line);
        Matcher type = TYPE.matcher(line);
        Matcher call = CALL.matcher(line);
        if (line.equals("OneKnife knife = new OneKnife();")) {
            knife = new OneKnife();
        } else if (text.matches()) {
            this.text = text.group(1);
        } else if (type.matches()) {
            Due.type(knife, Integer.parseInt(type.group(1)), this.text);
        } else if (call.matches()) {
            long got = answer(call.group(1), call.group(2));
            due.is(line, String.valueOf(got), String.valueOf(call.group(3)));
        } else {
            due.is("a line that this test can read: " + line, line.isEmpty() || line.equals("}") ? 1 : 0, 1);
        }
    }

    private long answer(String name, String numbers) throws InvocationTargetException, IllegalAccessException {
        List<Object> values = Stream.of(numbers.split(", ")).filter(n -> !n.isEmpty()).map(Integer::valueOf).collect(Collectors.toList());
        for (Method m : OneKnife.class.getDeclaredMethods()) {
            if (m.getName().equals(name) && m.getParameterCount() == values.size()) {
                return ((Number) m.invoke(knife, values.toArray())).longValue();
            }
        }
        throw new IllegalArgumentException("no such call: " + name);
    }

    private static String rows(String page) {
        return Pattern.compile("(?m)^\\| `(\\w+Test)` ").matcher(page).results().map(r -> r.group(1)).sorted().collect(Collectors.joining(" "));
    }

    private static String testsThere() throws IOException {
        try (Stream<Path> files = Files.list(Path.of("src/test/java"))) {
            return files.map(f -> f.getFileName().toString()).filter(f -> f.endsWith("Test.java"))
                .map(f -> f.replace(".java", "")).sorted().collect(Collectors.joining(" "));
        }
    }
}
