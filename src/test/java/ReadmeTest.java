import java.io.IOException;
import java.lang.reflect.Method;
import java.nio.file.Files;
import java.nio.file.Path;
import java.util.Arrays;
import java.util.Collections;
import java.util.List;
import java.util.Set;
import java.util.TreeSet;
import java.util.regex.Matcher;
import java.util.regex.Pattern;
import java.util.stream.Collectors;
import java.util.stream.Stream;

/** README.md: the answers in its example, each call and its errors, its list of tests; run in the project's folder. */
public final class ReadmeTest {
    private static final Pattern TYPED = Pattern.compile("\"([^\"]+)\"\\.toCharArray");
    private static final Pattern CALL = Pattern.compile("^hall\\.(\\w+)\\(([-\\d, ]*)\\); +// (-?\\d+):");
    private static final Pattern HEADING = Pattern.compile("^## Promise \\d+: (\\w+)$");
    private static final Pattern ERROR = Pattern.compile("INVALID_ARGUMENT|NOT_POSSIBLE|LIMIT_REACHED|NOT_FOUND");

    public static void main(String[] args) throws Exception {
        List<String> readme = Files.readAllLines(Path.of("README.md"));
        List<String> document = Files.readAllLines(Path.of("../shared/DOC.md"));
        example(readme);
        calls(readme, document);
        constants(readme, document);
        tests(readme);
        Checks.finish();
    }

    private static void example(List<String> readme) throws ReflectiveOperationException {
        GuessingHall hall = new GuessingHall();
        int made = 0;
        for (String line : readme) {
            Matcher typed = TYPED.matcher(line);
            if (typed.find()) {
                Checks.type(hall, typed.group(1));
            }
            Matcher call = CALL.matcher(line);
            if (call.find()) {
                Checks.due(line, answer(hall, call.group(1), call.group(2)), Integer.parseInt(call.group(3)));
                made++;
            }
        }
        long written = readme.stream().filter(line -> line.startsWith("hall.")).count();
        Checks.due("calls of the example that tell an answer", made, written);
        Checks.isTrue("the example has calls", made > 0);
    }

    private static int answer(GuessingHall hall, String name, String arguments) throws ReflectiveOperationException {
        Object[] numbers = arguments.isEmpty() ? new Object[0]
            : Arrays.stream(arguments.split(", ")).map(Integer::valueOf).toArray();
        Class<?>[] kinds = Collections.nCopies(numbers.length, int.class).toArray(new Class<?>[0]);
        Method method = GuessingHall.class.getMethod(name, kinds);
        return (int) method.invoke(hall, numbers);
    }

    /** Each promise's call has one row of a table, with the errors that the document names under its heading. */
    private static void calls(List<String> readme, List<String> document) {
        int found = 0;
        for (int index = 0; index < document.size(); index++) {
            Matcher heading = HEADING.matcher(document.get(index));
            if (heading.find()) {
                String call = callIn(document.get(index + 2));
                List<String> rows = rowsOf(readme, call);
                Checks.due("rows of " + call, rows.size(), 1);
                Checks.isTrue("the errors of " + call,
                    errorsIn(rows).equals(errorsIn(sectionAt(document, index + 1))));
                found++;
            }
        }
        Checks.due("calls of the document", found, 25);
    }

    /** "`int lend(int player, int to, int coins)`: .." is called as "lend(player, to, coins)". */
    private static String callIn(String line) {
        return line.substring(1, line.indexOf('`', 1)).replace("int ", "");
    }

    private static List<String> rowsOf(List<String> readme, String call) {
        return readme.stream().filter(line -> line.startsWith("| `" + call + "` |")).collect(Collectors.toList());
    }

    private static List<String> sectionAt(List<String> document, int first) {
        return document.stream().skip(first).takeWhile(line -> !line.startsWith("## ")).collect(Collectors.toList());
    }

    private static Set<String> errorsIn(List<String> lines) {
        Set<String> errors = new TreeSet<>();
        Matcher error = ERROR.matcher(String.join("\n", lines));
        while (error.find()) {
            errors.add(error.group());
        }
        return errors;
    }

    private static void constants(List<String> readme, List<String> document) {
        Pattern told = Pattern.compile("`([A-Z_]+) = (-\\d)`: (.*)$");
        int found = 0;
        for (String line : document) {
            Matcher constant = told.matcher(line);
            if (constant.find()) {
                String row = "| `" + constant.group(1) + "` | " + constant.group(2) + " | " + constant.group(3) + " |";
                Checks.isTrue(row, readme.contains(row));
                found++;
            }
        }
        Checks.due("constants of the document", found, 4);
    }

    private static void tests(List<String> readme) throws IOException {
        try (Stream<Path> files = Files.list(Path.of("src/test/java"))) {
            for (Path file : files.collect(Collectors.toList())) {
                String name = file.getFileName().toString().replace(".java", "");
                boolean isTold = readme.stream().anyMatch(line -> line.startsWith("| `" + name + "` |"));
                Checks.isTrue(name + " is told", isTold || !name.endsWith("Test"));
            }
        }
    }
}
