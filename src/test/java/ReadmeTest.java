import java.io.IOException;
import java.lang.reflect.Method;
import java.lang.reflect.Modifier;
import java.nio.file.DirectoryStream;
import java.nio.file.Files;
import java.nio.file.Path;
import java.util.Set;
import java.util.TreeSet;
import java.util.regex.Matcher;
import java.util.regex.Pattern;

/** README.md tells what is so: its example answers as it says, has every call; every test is named, and how to run them. */
public final class ReadmeTest {
    private static final Path README = Path.of("README.md");
    private static final Path TESTS = Path.of("src/test/java");
    private static final Path RUN = Path.of(".ci/run");
    private static final Pattern TYPED = Pattern.compile("for \\(char c : \"([^\"]*)\"\\.toCharArray\\(\\)\\) x\\.type\\(c\\);");
    private static final Pattern CALL = Pattern.compile("x\\.(\\w+)\\(([^)]*)\\);\\s*// (-?\\d+)\\b.*");

    private static int wrong = 0;

    private static void must(boolean so, String what) {
        if (so) return;
        wrong++;
        System.out.println("not so: " + what);
    }

    private static Set<String> callsOfTheFace() {
        Set<String> names = new TreeSet<>();
        for (Method m : ThinReadings.class.getDeclaredMethods()) if (Modifier.isPublic(m.getModifiers())) names.add(m.getName());
        return names;
    }

    private static Method methodOf(String name) {
        for (Method m : ThinReadings.class.getDeclaredMethods()) if (Modifier.isPublic(m.getModifiers()) && m.getName().equals(name)) return m;
        return null;
    }

    private static Object[] numbersOf(String given) {
        if (given.isBlank()) return new Object[0];
        String[] parts = given.split(",");
        Object[] numbers = new Object[parts.length];
        for (int k = 0; k < parts.length; k++) {
            String part = parts[k].trim();
            numbers[k] = part.startsWith("'") ? (int) part.charAt(1) : Integer.parseInt(part);
        }
        return numbers;
    }

    private static String exampleOf(String page) {
        int from = page.indexOf("```java\n");
        int to = page.indexOf("\n```", from + 1);
        must(from >= 0 && to > from, "there is an example");
        return from >= 0 && to > from ? page.substring(from + 8, to) : "";
    }

    private static void runExample(String example) throws ReflectiveOperationException {
        ThinReadings x = new ThinReadings();
        Set<String> missing = callsOfTheFace();
        for (String line : example.split("\n")) {
            Matcher typed = TYPED.matcher(line);
            Matcher call = CALL.matcher(line);
            if (typed.matches()) {
                for (char c : typed.group(1).toCharArray()) x.type(c);
            } else if (call.matches()) {
                missing.remove(call.group(1));
                runCall(x, line, call);
            } else {
                must(line.isBlank() || line.startsWith("//") || line.equals("ThinReadings x = new ThinReadings();"), "a line that can be run: " + line);
            }
        }
        must(missing.isEmpty(), "the example has every call; it lacks " + missing);
    }

    private static void runCall(ThinReadings x, String line, Matcher call) throws ReflectiveOperationException {
        Method method = methodOf(call.group(1));
        Object[] numbers = numbersOf(call.group(2));
        boolean isCall = method != null && method.getParameterCount() == numbers.length;
        must(isCall, "a call of the class: " + line);
        if (isCall) {
            Object answer = method.invoke(x, numbers);
            must(answer.equals(Integer.parseInt(call.group(3))), line + " (it answered " + answer + ")");
        }
    }

    private static void tests(String page) throws IOException {
        must(page.contains("\n    .ci/run\n"), "the page tells how to run the tests");
        must(Files.isExecutable(RUN), ".ci/run can be run");
        try (DirectoryStream<Path> all = Files.newDirectoryStream(TESTS, "*.java")) {
            for (Path test : all) {
                String name = test.getFileName().toString().replace(".java", "");
                must(page.contains(name), "the page names " + name);
            }
        }
        Matcher named = Pattern.compile("src/(test|main)/java/\\w+\\.java").matcher(page);
        while (named.find()) must(Files.exists(Path.of(named.group())), named.group() + " is there");
    }

    public static void main(String[] args) throws IOException, ReflectiveOperationException {
        String page = Files.readString(README);
        runExample(exampleOf(page));
        tests(page);
        System.out.println(wrong == 0 ? "README.md tells what is so" : wrong + " things that README.md tells are not so");
        if (wrong != 0) System.exit(1);
    }
}
