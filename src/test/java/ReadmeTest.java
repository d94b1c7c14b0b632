import java.io.IOException;
import java.lang.reflect.Method;
import java.nio.file.Files;
import java.nio.file.Path;
import java.util.Arrays;
import java.util.List;
import java.util.regex.Matcher;
import java.util.regex.Pattern;
import java.util.stream.Stream;

/** README.md tells the truth: its example answers as told there, and no call and no test is left out. */
public final class ReadmeTest {
    private static final Due due = new Due("ReadmeTest");
    private static final Pattern TEXT = Pattern.compile("String text = \"([^\"]+)\";");
    private static final Pattern ROW = Pattern.compile("^x\\.(\\w+)\\(([-0-9, ]*)\\); +// (-?\\d+): ");
    private static final Pattern CALL = Pattern.compile("^x\\.");
    private static final Pattern QUOTED = Pattern.compile("`(\\w+)`");

    public static void main(String[] args) throws IOException {
        String page = Files.readString(Path.of("README.md"));
        example(page.substring(page.indexOf("```java"), page.lastIndexOf("```")));
        callsAreNamed(page);
        testsAreNamed(page);
        due.end();
    }

    /** Rows that name the text's length are called with it; each row with a number behind // answers that number. */
    private static void example(String block) {
        Matcher told = TEXT.matcher(block);
        due.holds("the example has a text", told.find());
        String text = told.group(1);
        TrickHouses x = new TrickHouses();
        Due.lay(x, 0, 0, text);
        int rows = 0;
        for (String line : block.split("\n")) {
            String plain = line.replace("text.length()", "" + text.length());
            Matcher row = ROW.matcher(plain);
            if (row.find()) {
                due.is(line, Call.on(x, row.group(1), numbers(row.group(2))), Long.parseLong(row.group(3)));
                rows++;
            } else {
                due.holds("an answer is told: " + line, !CALL.matcher(line).find() || line.startsWith("x.sheet(0,"));
            }
        }
        due.holds("rows of the example are called: " + rows, rows > 20);
    }

    private static int[] numbers(String told) {
        return told.isEmpty() ? new int[0]
            : Arrays.stream(told.split(", ")).mapToInt(Integer::parseInt).toArray();
    }

    private static void callsAreNamed(String page) {
        String table = page.substring(page.indexOf("| calls |"), page.indexOf("No call throws"));
        List<String> named = QUOTED.matcher(table).results().map(m -> m.group(1)).toList();
        int calls = 0;
        for (Method method : TrickHouses.class.getMethods()) {
            if (method.getDeclaringClass() == TrickHouses.class) {
                due.holds("README names " + method.getName(), named.contains(method.getName()));
                calls++;
            }
        }
        due.is("calls that README names", named.size(), calls);
    }

    private static void testsAreNamed(String page) throws IOException {
        try (Stream<Path> files = Files.list(Path.of("src/test/java"))) {
            for (Path file : files.toList()) {
                String name = file.getFileName().toString().replace(".java", "");
                due.holds("README names " + name, !name.endsWith("Test") || page.contains(name));
            }
        }
    }
}
