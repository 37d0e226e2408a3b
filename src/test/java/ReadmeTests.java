import java.io.ByteArrayOutputStream;
import java.io.IOException;
import java.io.PrintStream;
import java.nio.file.Files;
import java.nio.file.Path;
import java.util.Set;
import java.util.TreeSet;
import java.util.regex.Matcher;
import java.util.regex.Pattern;
import java.util.stream.Stream;

/** README.md: its example is tried out as it stands there, and its tables name every test. */
public final class ReadmeTests {
    private static final Path TESTS = Path.of("src/test/java");

    private ReadmeTests() {
    }

    public static void main(String[] args) throws IOException {
        String readme = Files.readString(Path.of("README.md"));
        theExampleIsHills(readme);
        theExamplePrintsWhatIsTold(readme);
        theTablesNameEveryTest(readme);
        Check.end();
    }

    private static void theExampleIsHills(String readme) throws IOException {
        Check.equal("the example", block(readme, "java"),
                Files.readString(TESTS.resolve("Hills.java")));
    }

    private static void theExamplePrintsWhatIsTold(String readme) {
        PrintStream before = System.out;
        ByteArrayOutputStream printed = new ByteArrayOutputStream();
        System.setOut(new PrintStream(printed, true));
        try {
            Hills.main(new String[0]);
        } finally {
            System.setOut(before);
        }
        Check.equal("the example", printed.toString().replace("\r", ""), block(readme, "text"));
    }

    /** What stands in the first block of a language. */
    private static String block(String readme, String language) {
        Matcher found = Pattern.compile("^```" + language + "\\n(.*?)^```$",
                Pattern.MULTILINE | Pattern.DOTALL).matcher(readme);
        return found.find() ? found.group(1) : "";
    }

    private static void theTablesNameEveryTest(String readme) throws IOException {
        Set<String> told = new TreeSet<>();
        Matcher row = Pattern.compile("^\\| `(\\w+Tests)` \\|", Pattern.MULTILINE).matcher(readme);
        while (row.find()) {
            told.add(row.group(1));
        }
        Set<String> there = new TreeSet<>();
        try (Stream<Path> files = Files.list(TESTS)) {
            files.map(file -> file.getFileName().toString())
                    .filter(name -> name.endsWith("Tests.java"))
                    .forEach(name -> there.add(name.replace(".java", "")));
        }
        Check.equal("the tests", String.join(", ", told), String.join(", ", there));
    }
}
