import java.io.IOException;
import java.lang.reflect.Method;
import java.lang.reflect.Modifier;
import java.nio.file.Files;
import java.nio.file.Path;
import java.util.Arrays;
import java.util.Set;
import java.util.TreeSet;
import java.util.regex.Matcher;
import java.util.regex.Pattern;
import java.util.stream.Collectors;
import java.util.stream.Stream;

/** What README.md says must be so: its example, the calls, the classes and the tests that it names. */
public final class ReadmeTest extends Bench {
    private static final Pattern MAKING = Pattern.compile("BearerHouse house = new BearerHouse\\((\\d+), (\\d+)\\);.*");
    private static final Pattern CALL = Pattern.compile("house\\.(\\w+)\\((.*)\\); +// (-?\\d+)(:.*)?");
    /** The head of a constructor's or of a method's body: a type stands in front of a method's name. */
    private static final Pattern HEAD = Pattern.compile(" +(?:(?:public|private|static) )*([\\w\\[\\]]+ )?\\w+\\([^;]*\\) \\{");

    public static void main(String[] args) throws IOException, ReflectiveOperationException {
        String readme = Files.readString(Path.of("README.md"));
        runExample(readme);
        due("a row for each call", namesIn(readme, "\n\\| `(\\w+)\\(").equals(namesOfCalls()), true);
        String built = sectionOf(readme, "How it is built");
        Set<String> classes = namesIn(built, "`([A-Z]\\w+)`");
        due("the house is named", classes.remove("BearerHouse"), true);
        due("the classes inside " + classes, classes.equals(namesInside()), true);
        Set<String> tests = namesIn(sectionOf(readme, "Tests"), "`(\\w+Test)`");
        due("the tests " + tests, tests.equals(testsOfTheProject()), true);
        onlyConstructorsMakeObjects();
        finish();
    }

    private static String sectionOf(String readme, String name) {
        return Arrays.stream(readme.split("\n## ")).filter(s -> s.startsWith(name + "\n")).findFirst().orElse("");
    }

    private static Set<String> namesIn(String text, String pattern) {
        return Pattern.compile(pattern).matcher(text).results().map(m -> m.group(1))
            .collect(Collectors.toCollection(TreeSet::new));
    }

    private static void runExample(String readme) throws ReflectiveOperationException {
        String[] lines = readme.split("```java\n")[1].split("```")[0].split("\n");
        Matcher making = MAKING.matcher(lines[0]);
        due("the example begins with a new house", making.matches(), true);
        BearerHouse house = new BearerHouse(Integer.parseInt(making.group(1)), Integer.parseInt(making.group(2)));
        for (int i = 1; i < lines.length; i++) {
            Matcher call = CALL.matcher(lines[i]);
            due("a call with its answer: " + lines[i], call.matches(), true);
            due(lines[i], answer(house, call.group(1), call.group(2)), Integer.parseInt(call.group(3)));
        }
    }

    private static int answer(BearerHouse house, String name, String arguments) throws ReflectiveOperationException {
        Object[] numbers = arguments.isEmpty() ? new Object[0]
            : Arrays.stream(arguments.split(", ")).map(Integer::decode).toArray();
        Class<?>[] types = new Class<?>[numbers.length];
        Arrays.fill(types, int.class);
        return (Integer) BearerHouse.class.getMethod(name, types).invoke(house, numbers);
    }

    private static Set<String> namesOfCalls() {
        return Arrays.stream(BearerHouse.class.getDeclaredMethods()).filter(m -> Modifier.isPublic(m.getModifiers()))
            .map(Method::getName).collect(Collectors.toCollection(TreeSet::new));
    }

    private static Set<String> namesInside() {
        return Arrays.stream(BearerHouse.class.getDeclaredClasses()).map(Class::getSimpleName)
            .collect(Collectors.toCollection(TreeSet::new));
    }

    private static Set<String> testsOfTheProject() throws IOException {
        try (Stream<Path> files = Files.list(Path.of("src/test/java"))) {
            return files.map(f -> f.getFileName().toString()).filter(f -> f.endsWith("Test.java"))
                .map(f -> f.substring(0, f.length() - ".java".length())).collect(Collectors.toCollection(TreeSet::new));
        }
    }

    private static void onlyConstructorsMakeObjects() throws IOException {
        String source = Files.readString(Path.of("src/main/java/BearerHouse.java"));
        boolean isInMethod = false;
        int made = 0;
        for (String line : source.replaceAll("(?s)/\\*.*?\\*/|//[^\n]*", "").split("\n")) {
            Matcher head = HEAD.matcher(line);
            if (head.matches()) {
                isInMethod = head.group(1) != null;
            } else if (line.contains(" class ")) {
                isInMethod = false;
            }
            if (line.contains("new ")) {
                made++;
                due("an object made by a method: " + line.strip(), isInMethod, false);
            }
        }
        due("objects are made somewhere", made > 10, true);
    }
}
