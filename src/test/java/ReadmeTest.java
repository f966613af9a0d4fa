import java.io.IOException;
import java.lang.reflect.Method;
import java.lang.reflect.Modifier;
import java.nio.file.Files;
import java.nio.file.Path;
import java.util.List;
import java.util.regex.Matcher;
import java.util.regex.Pattern;
import java.util.stream.Collectors;
import java.util.stream.Stream;

/** README.md must not tell what is not so: its example is asked row by row, and it names every call and every test. */
public final class ReadmeTest {
    private static final String FENCE = "```";
    private static final Pattern MADE = Pattern.compile("FoolVotes x = new FoolVotes\\(\\);");
    private static final Pattern TYPED =
        Pattern.compile("for \\(char b : \"([^\"]*)\"\\.toCharArray\\(\\)\\) x\\.type\\((\\d), b\\); +// .+");
    private static final Pattern ASKED = Pattern.compile("x\\.(\\w+\\([^)]*\\)); +// (-?\\d+): .+");
    private static final Check check = new Check();

    public static void main(String[] args) throws IOException {
        String page = Files.readString(Path.of("README.md"));
        example(page);
        namesEveryCall(page);
        namesEveryTest(page);
        check.end("ReadmeTest");
    }

    private static List<String> rowsOfExample(String page) {
        int start = page.indexOf(FENCE + "java\n");
        int end = page.indexOf("\n" + FENCE + "\n", start + 1);
        check.isTrue("README.md has an example", start >= 0 && end > start);
        if (start < 0 || end <= start) {
            return List.of();
        }
        return page.substring(start, end).lines().skip(1).collect(Collectors.toList());
    }

    private static void example(String page) {
        FoolVotes x = null;
        int calls = 0;
        for (String row : rowsOfExample(page)) {
            Matcher typed = TYPED.matcher(row);
            Matcher asked = ASKED.matcher(row);
            if (MADE.matcher(row).matches()) {
                x = new FoolVotes();
            } else if (x != null && typed.matches()) {
                Check.typeAll(x, Integer.parseInt(typed.group(2)), typed.group(1));
            } else if (x != null && asked.matches()) {
                calls++;
                check.due(x, asked.group(1), Long.parseLong(asked.group(2)));
            } else {
                check.isTrue("a row of the example that this test can read: " + row, false);
            }
        }
        check.isTrue("the example asks something", calls > 0);
    }

    private static void namesEveryCall(String page) {
        for (Method m : FoolVotes.class.getDeclaredMethods()) {
            if (Modifier.isPublic(m.getModifiers())) {
                check.isTrue("README.md names " + m.getName(), page.contains("`" + m.getName() + "`"));
            }
        }
    }

    private static void namesEveryTest(String page) throws IOException {
        List<String> names;
        try (Stream<Path> files = Files.list(Path.of("src/test/java"))) {
            names = files.map(f -> f.getFileName().toString()).filter(f -> f.endsWith("Test.java"))
                .map(f -> f.substring(0, f.length() - ".java".length())).sorted().collect(Collectors.toList());
        }
        check.isTrue("there are tests", !names.isEmpty());
        for (String name : names) {
            check.isTrue("README.md names " + name, page.contains("| " + name + " |"));
        }
    }
}
