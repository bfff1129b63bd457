import java.io.IOException;
import java.lang.reflect.Method;
import java.lang.reflect.Modifier;
import java.nio.file.Files;
import java.nio.file.Path;
import java.util.List;
import java.util.Set;
import java.util.TreeSet;
import java.util.regex.Matcher;
import java.util.regex.Pattern;
import java.util.stream.Collectors;
import java.util.stream.Stream;

/** README.md is true of the class and of the tests. Runs in the project's folder, as .ci/run does. */
public final class ReadmeTest {
    private static final Script SCRIPT = new Script();
    private static final Pattern EXAMPLE = Pattern.compile("```java\n(.*?)```", Pattern.DOTALL);
    private static final Pattern CALL = Pattern.compile(
            "hall\\.(\\w+)\\(([^()]*)\\);\\s+// (answers|throws) ([-\\w.]+): .*");
    private static final Pattern ROW = Pattern.compile("^\\| `(\\w+)\\(([^()]*)\\)` \\|", Pattern.MULTILINE);
    private static final Pattern TEST_FILE = Pattern.compile("src/test/\\w+/\\w+\\.java");

    public static void main(String[] args) throws IOException {
        String readme = Files.readString(Path.of("README.md"));
        exampleAnswersAsItSays(readme);
        tableHasEveryCall(readme);
        listsHaveEveryTest(readme);
        namesTheScriptAndItsNeeds(readme);
        SCRIPT.end();
    }

    private static void exampleAnswersAsItSays(String readme) {
        Matcher example = EXAMPLE.matcher(readme);
        SCRIPT.due("an example in Java", "" + example.find(), "true");
        List<String> lines = example.group(1).lines().toList();
        SCRIPT.due("the example's first line", lines.get(0), "BundleHall hall = new BundleHall();");
        BundleHall hall = new BundleHall();
        for (String line : lines.subList(1, lines.size())) {
            Matcher call = CALL.matcher(line);
            SCRIPT.due("a call with its answer: " + line, "" + call.matches(), "true");
            String words = call.group(1) + " " + call.group(2).replace(",", " ").replace("true", "optional");
            SCRIPT.due("the example: " + line, Script.answer(hall, words), due(call.group(3), call.group(4)));
        }
    }

    private static String due(String kind, String said) {
        return kind.equals("answers") ? said : initials(said);
    }

    /** The short name of an exception that the scripts use: NSE for NoSuchElementException. */
    private static String initials(String exception) {
        return exception.replace("ElementException", "E").replaceAll("[^A-Z]", "");
    }

    private static void tableHasEveryCall(String readme) {
        Set<String> told = new TreeSet<>();
        Matcher row = ROW.matcher(readme);
        while (row.find()) {
            int numbers = row.group(2).isEmpty() ? 0 : row.group(2).split(",").length;
            told.add(row.group(1) + "/" + numbers);
        }
        Set<String> due = new TreeSet<>();
        for (Method method : BundleHall.class.getDeclaredMethods()) {
            if (Modifier.isPublic(method.getModifiers())) {
                due.add(method.getName() + "/" + method.getParameterCount());
            }
        }
        SCRIPT.due("the table of calls", told.toString(), due.toString());
    }

    private static void listsHaveEveryTest(String readme) throws IOException {
        Set<String> told = new TreeSet<>();
        Matcher file = TEST_FILE.matcher(readme);
        while (file.find()) {
            told.add(file.group());
        }
        Set<String> due = new TreeSet<>(filesIn("src/test/java"));
        due.addAll(filesIn("src/test/support"));
        SCRIPT.due("the lists of tests", told.toString(), due.toString());
    }

    private static Set<String> filesIn(String folder) throws IOException {
        try (Stream<Path> files = Files.list(Path.of(folder))) {
            return files.map(path -> folder + "/" + path.getFileName()).collect(Collectors.toSet());
        }
    }

    private static void namesTheScriptAndItsNeeds(String readme) {
        SCRIPT.due(".ci/run can be run", "" + Files.isExecutable(Path.of(".ci/run")), "true");
        for (String name : List.of("\n.ci/run\n", "`sh`", "`javac`", "`java`", "`../shared`", "`../shared/tests`")) {
            SCRIPT.due("the tests' part names " + name.trim(),
                    "" + readme.substring(readme.indexOf("## Tests")).contains(name), "true");
        }
    }
}
