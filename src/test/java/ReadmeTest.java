import java.io.IOException;
import java.nio.file.Files;
import java.nio.file.Path;
import java.util.Arrays;
import java.util.List;
import java.util.Set;
import java.util.TreeSet;
import java.util.regex.Matcher;
import java.util.regex.Pattern;
import java.util.stream.Collectors;
import java.util.stream.Stream;

/** What README.md says: its example answers as told, and its tables leave no method and no test out. */
public final class ReadmeTest {
    private static final Pattern EXAMPLE_LINE = Pattern.compile("x\\.(\\w+)\\(([^)]*)\\); +// (-?\\d+): .*");
    private static final Pattern CALL_ROW = Pattern.compile("\\| `(\\w+)\\(([^)]*)\\)` \\|.*");
    private static final Pattern TEST_NAME = Pattern.compile("`(\\w+Test)`");

    public static void main(String[] args) throws IOException {
        List<String> lines = Files.readAllLines(Path.of("README.md"));
        example(lines.subList(lines.indexOf("```java") + 1, lines.size()));
        tableOfCalls(lines);
        tableOfTests(lines);
        Check.end();
    }

    private static Set<String> allMethods() {
        return Stream.of(Call.CHANGES, Call.QUESTIONS).flatMap(Arrays::stream)
            .collect(Collectors.toCollection(TreeSet::new));
    }

    private static void example(List<String> lines) {
        Check.due("the example's first line", lines.get(0), "RoaringCodec x = new RoaringCodec();");
        RoaringCodec x = new RoaringCodec();
        Set<String> shown = new TreeSet<>();
        for (String line : lines.subList(1, lines.indexOf("```"))) {
            Matcher parts = EXAMPLE_LINE.matcher(line);
            boolean read = parts.matches();
            Check.due("a call with its answer: " + line, read, true);
            if (read) {
                Call call = new Call(parts.group(1), numbers(parts.group(2)));
                Check.due(line, call.on(x), Integer.parseInt(parts.group(3)));
                shown.add(call.name);
            }
        }
        Check.due("the methods that the example shows", shown, allMethods());
    }

    private static int[] numbers(String list) {
        return Arrays.stream(list.split(",")).mapToInt(ReadmeTest::value).toArray();
    }

    /** A sum of products, such as 256 * 5 + 30. */
    private static int value(String text) {
        int sum = 0;
        for (String part : text.split("\\+")) {
            int product = 1;
            for (String factor : part.split("\\*")) {
                product *= Integer.parseInt(factor.trim());
            }
            sum += product;
        }
        return sum;
    }

    private static void tableOfCalls(List<String> lines) {
        Set<String> rows = new TreeSet<>();
        for (String line : lines) {
            Matcher parts = CALL_ROW.matcher(line);
            if (parts.matches()) {
                String name = parts.group(1);
                rows.add(name);
                Check.due("arguments of " + name, parts.group(2).split(", ").length, Call.arguments(name));
            }
        }
        Check.due("the calls of the table", rows, allMethods());
    }

    private static void tableOfTests(List<String> lines) throws IOException {
        Set<String> told = new TreeSet<>();
        for (String line : lines) {
            Matcher names = TEST_NAME.matcher(line);
            while (line.startsWith("|") && names.find()) {
                told.add(names.group(1) + ".java");
            }
        }
        try (Stream<Path> files = Files.list(Path.of("src/test/java"))) {
            Set<String> there = files.map(file -> file.getFileName().toString())
                .filter(name -> name.endsWith("Test.java")).collect(Collectors.toCollection(TreeSet::new));
            Check.due("the tests of the table", told, there);
        }
    }
}
