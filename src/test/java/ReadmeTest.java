import java.io.IOException;
import java.lang.reflect.InvocationTargetException;
import java.lang.reflect.Method;
import java.lang.reflect.Modifier;
import java.nio.file.Files;
import java.nio.file.Path;
import java.util.List;
import java.util.regex.Matcher;
import java.util.regex.Pattern;
import java.util.stream.Collectors;
import java.util.stream.Stream;

/** README.md's examples answer what it says, and it leaves out no call, no constant and no test. The third argument is its path. */
public final class ReadmeTest {
    private static final Pattern FED = Pattern.compile("for \\(char c : \"(.*)\"\\.toCharArray\\(\\)\\) x\\.feed\\(c\\);");
    private static final Pattern CALL = Pattern.compile("x\\.(\\w+)\\(([-\\d, ]*)\\); +// (-?\\d+|[A-Z]+)(: .*)?");
    private static DeltaCycles x = new DeltaCycles();

    public static void main(String[] args) throws IOException, ReflectiveOperationException {
        Path path = Path.of(args.length > 2 ? args[2] : "README.md");
        String text = Files.readString(path);
        Matcher block = Pattern.compile("(?s)```java\n(.*?)```").matcher(text);
        int blocks = 0;
        while (block.find()) {
            blocks++;
            for (String line : block.group(1).split("\n")) {
                makeLine(line);
            }
        }
        Check.holds("there are examples", blocks > 0);
        leavesOutNothing(text, testsBeside(path));
        Check.end("ReadmeTest");
    }

    private static void makeLine(String line) throws ReflectiveOperationException {
        Matcher fed = FED.matcher(line);
        Matcher call = CALL.matcher(line);
        if (line.equals("DeltaCycles x = new DeltaCycles();")) {
            x = new DeltaCycles();
        } else if (fed.matches()) {
            Check.feed(x, fed.group(1));
        } else if (call.matches()) {
            Check.due("README.md: " + line, answer(call.group(1), call.group(2)), due(call.group(3)));
        } else {
            Check.holds("README.md: '" + line + "' can be run", false);
        }
    }

    private static int answer(String name, String arguments) throws ReflectiveOperationException {
        Integer[] numbers = Stream.of(arguments.split(", *")).filter(s -> !s.isEmpty()).map(Integer::valueOf).toArray(Integer[]::new);
        Class<?>[] types = Stream.of(numbers).map(n -> int.class).toArray(Class<?>[]::new);
        Method method = DeltaCycles.class.getMethod(name, types);
        try {
            return (Integer) method.invoke(x, (Object[]) numbers);
        } catch (InvocationTargetException e) {
            throw new IllegalStateException(name + "(" + arguments + ") threw", e.getCause());
        }
    }

    private static int due(String told) throws ReflectiveOperationException {
        boolean isNumber = told.matches("-?\\d+");
        return isNumber ? Integer.parseInt(told) : DeltaCycles.class.getField(told).getInt(null);
    }

    private static List<String> testsBeside(Path readme) throws IOException {
        Path directory = readme.toAbsolutePath().getParent().resolve("src/test/java");
        try (Stream<Path> files = Files.list(directory)) {
            return files.map(p -> p.getFileName().toString()).filter(n -> n.endsWith("Test.java"))
                .map(n -> n.substring(0, n.length() - ".java".length())).collect(Collectors.toList());
        }
    }

    private static void leavesOutNothing(String text, List<String> tests) throws ReflectiveOperationException {
        for (Method m : DeltaCycles.class.getDeclaredMethods()) {
            if (Modifier.isPublic(m.getModifiers())) {
                Check.holds("README.md tells " + m.getName() + "()", text.contains("`" + m.getName() + "("));
            }
        }
        for (String constant : new String[] {"NONE", "UNKNOWN", "OUTSIDE", "NOT", "FULL"}) {
            String row = "| `" + constant + "` (" + due(constant) + ") |";
            Check.holds("README.md has the row " + row, text.contains(row));
        }
        Check.holds("tests were found", tests.size() > 0);
        for (String test : tests) {
            Check.holds("README.md names " + test, text.contains("`" + test + "`"));
        }
        Check.holds("README.md says how to run the tests", text.contains("bash .ci/run"));
    }
}
