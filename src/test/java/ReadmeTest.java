import java.io.IOException;
import java.lang.reflect.Method;
import java.lang.reflect.Modifier;
import java.nio.file.Files;
import java.nio.file.Path;
import java.util.ArrayList;
import java.util.List;
import java.util.Set;
import java.util.TreeSet;
import java.util.regex.Matcher;
import java.util.regex.Pattern;
import java.util.stream.Collectors;
import java.util.stream.Stream;

/** What README.md shows is so: each answer of its example, its tables and its command. Run from the project's folder. */
public final class ReadmeTest {
    private static final Path TESTS = Path.of("src", "test", "java");
    private static final String NEW_OBJECT = "PolygonFill fill = new PolygonFill();";
    private static final Pattern CALL = Pattern.compile("fill\\.(\\w+)\\(([^()]*)\\); +// (.+)");
    private static final Pattern ANSWER = Pattern.compile("(-?\\d+|[A-Z_]+)(: .+)?");

    private static final Due due = new Due();

    public static void main(String[] args) throws ReflectiveOperationException, IOException {
        String text = Files.readString(Path.of("README.md"));
        exampleAnswersWhatItSays(text);
        constantsAreAsListed(text);
        commandIsAFileThatRuns(text);
        testsAreAllListed(text);
        due.end();
    }

    private static void exampleAnswersWhatItSays(String text) throws ReflectiveOperationException {
        List<String> lines = between(text, "```java\n", "```").lines().toList();
        due.holds("the example starts with " + NEW_OBJECT, lines.get(0).equals(NEW_OBJECT));
        PolygonFill fill = new PolygonFill();
        Set<String> shown = new TreeSet<>();
        for (String line : lines.subList(1, lines.size())) {
            Matcher call = CALL.matcher(line);
            if (call.matches()) {
                shown.add(call.group(1));
                oneCall(fill, line, call.group(1), call.group(2), call.group(3));
            } else {
                due.holds("a call with a comment: " + line, false);
            }
        }
        due.holds("the example shows every call, and has " + shown, shown.equals(publicMethods()));
    }

    private static void oneCall(PolygonFill fill, String line, String name, String arguments, String comment)
            throws ReflectiveOperationException {
        List<Class<?>> types = new ArrayList<>();
        List<Object> values = new ArrayList<>();
        for (String argument : arguments.isEmpty() ? new String[0] : arguments.split(", ")) {
            boolean truth = argument.equals("true") || argument.equals("false");
            types.add(truth ? boolean.class : int.class);
            values.add(truth ? (Object) Boolean.valueOf(argument) : (Object) Integer.valueOf(argument));
        }
        Method method = PolygonFill.class.getMethod(name, types.toArray(new Class<?>[0]));
        Object got = method.invoke(fill, values.toArray());
        Matcher answer = ANSWER.matcher(comment);
        if (method.getReturnType() == void.class) {
            due.holds("tells no answer, as there is none: " + line, !answer.matches());
        } else if (answer.matches()) {
            due.is("README.md: " + line, (Integer) got, number(answer.group(1)));
        } else {
            due.holds("tells an answer: " + line, false);
        }
    }

    private static int number(String word) throws ReflectiveOperationException {
        return Character.isUpperCase(word.charAt(0))
            ? PolygonFill.class.getField(word).getInt(null)
            : Integer.parseInt(word);
    }

    private static Set<String> publicMethods() {
        return Stream.of(PolygonFill.class.getDeclaredMethods())
            .filter(method -> Modifier.isPublic(method.getModifiers()))
            .map(Method::getName)
            .collect(Collectors.toCollection(TreeSet::new));
    }

    private static void constantsAreAsListed(String text) throws ReflectiveOperationException {
        Matcher row = Pattern.compile("(?m)^\\| `([A-Z_]+)` \\| (-?\\d+) \\|").matcher(text);
        int rows = 0;
        while (row.find()) {
            rows++;
            due.is("README.md: " + row.group(1), number(row.group(1)), Integer.parseInt(row.group(2)));
        }
        due.is("README.md: constants", rows, PolygonFill.class.getFields().length);
    }

    /** That it also runs the tests is seen by this one being run: it is .ci/run that runs it. */
    private static void commandIsAFileThatRuns(String text) {
        String command = between(text, "## Tests\n\n    ", "\n");
        due.holds("README.md names .ci/run, and not " + command, command.equals(".ci/run"));
        due.holds(command + " can be run", Files.isExecutable(Path.of(command)));
    }

    private static void testsAreAllListed(String text) throws IOException {
        Set<String> there;
        try (Stream<Path> files = Files.list(TESTS)) {
            there = files.map(file -> file.getFileName().toString())
                .filter(name -> name.endsWith("Test.java"))
                .map(name -> name.replace(".java", ""))
                .collect(Collectors.toCollection(TreeSet::new));
        }
        Set<String> listed = Pattern.compile("(?m)^\\| `(\\w+Test)` \\|").matcher(text).results()
            .map(row -> row.group(1))
            .collect(Collectors.toCollection(TreeSet::new));
        due.holds("the tests listed, " + listed + ", are those there, " + there, listed.equals(there));
    }

    private static String between(String text, String before, String after) {
        int start = text.indexOf(before);
        if (start < 0) {
            due.holds("README.md has " + before.trim(), false);
            return "nothing";
        }
        start += before.length();
        return text.substring(start, text.indexOf(after, start));
    }
}
