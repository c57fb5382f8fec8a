import java.io.IOException;
import java.lang.reflect.Field;
import java.nio.file.Files;
import java.nio.file.Path;
import java.util.List;
import java.util.Set;
import java.util.TreeSet;
import java.util.regex.Matcher;
import java.util.regex.Pattern;
import java.util.stream.Collectors;
import java.util.stream.Stream;

/** README.md: its calls have the answers that stand behind them, and the tests that it names are there. */
public final class ReadmeTest {
    private static final Checks CHECKS = new Checks();
    private static final String TESTS = "src/test/java/";
    private static final String BEGINNING = "SimplicialSet x = new SimplicialSet();";
    private static final Pattern LINE = Pattern.compile("x\\.(\\w+\\(.*\\)); *// (-?\\d+)( [A-Z_]+)?(:.*)?");
    private static final int PROMISES = 25;

    public static void main(String[] args) throws IOException, IllegalAccessException {
        String readme = Written.read("README.md");
        calls(readme);
        errors(readme);
        CHECKS.part("sentences");
        CHECKS.holds("512 calls are told", readme.replaceAll("\\s+", " ").contains("used for at most 512 calls"));
        CHECKS.holds("errors change nothing", readme.contains("A call that reports an error changes nothing"));
        CHECKS.holds("the script is told", readme.contains("\n.ci/run\n"));
        promises(readme);
        everyTest(readme);
        CHECKS.finish();
    }

    private static void calls(String readme) throws IllegalAccessException {
        List<List<String>> blocks = Written.javaBlocks(readme);
        CHECKS.holds("there are examples", blocks.size() > 0);
        for (List<String> block : blocks) {
            CHECKS.part("the example with " + block.get(1));
            CHECKS.holds("it makes an object", block.get(0).equals(BEGINNING));
            Calls x = new Calls(CHECKS);
            for (String line : block.subList(1, block.size())) {
                call(x, line);
            }
        }
    }

    private static void call(Calls x, String line) throws IllegalAccessException {
        Matcher parts = LINE.matcher(line);
        boolean isCall = parts.matches();
        CHECKS.holds("it is a call with an answer: " + line, isCall);
        if (isCall) {
            long want = Long.parseLong(parts.group(2));
            CHECKS.holds("it is well written: " + line, Written.due(x, parts.group(1), want));
            String name = nameOf(want);
            CHECKS.holds("an error is named: " + line, name.isEmpty() ? parts.group(3) == null : (" " + name).equals(parts.group(3)));
        }
    }

    /** The name of the constant of the class that has a value, or nothing. */
    private static String nameOf(long value) throws IllegalAccessException {
        for (Field field : SimplicialSet.class.getFields()) {
            if (field.getInt(null) == value) {
                return field.getName();
            }
        }
        return "";
    }

    private static void errors(String readme) throws IllegalAccessException {
        CHECKS.part("the table of errors");
        for (Field field : SimplicialSet.class.getFields()) {
            String row = "| `" + field.getName() + "` | " + field.getInt(null) + " | ";
            CHECKS.holds("there is a row " + row, readme.contains("\n" + row));
        }
    }

    /** Each promise has a row, and each test of the row has the method that it names, which main reaches. */
    private static void promises(String readme) throws IOException {
        for (int promise = 1; promise <= PROMISES; promise++) {
            CHECKS.part("the tests of promise " + promise);
            Matcher row = Pattern.compile("(?m)^\\| " + promise + " [^|]*\\|([^|]*)\\|([^|]*)\\|$").matcher(readme);
            boolean isThere = row.find();
            CHECKS.holds("there is a row", isThere);
            for (int column = 1; isThere && column <= 2; column++) {
                CHECKS.holds("column " + column + " names tests", testsExist(row.group(column)) > 0);
            }
        }
    }

    private static int testsExist(String names) throws IOException {
        Matcher name = Pattern.compile("`(\\w+)\\.(\\w+)`").matcher(names);
        int found = 0;
        while (name.find()) {
            found++;
            Path file = Path.of(TESTS + name.group(1) + ".java");
            String text = Files.exists(file) ? Files.readString(file) : "";
            // Its declaration, and a call of it.
            long times = Pattern.compile("\\b" + name.group(2) + "\\(").matcher(text).results().count();
            CHECKS.holds(name.group() + " is there and called", times >= 2);
        }
        return found;
    }

    private static void everyTest(String readme) throws IOException {
        CHECKS.part("all tests");
        Set<String> unnamed = new TreeSet<>();
        try (Stream<Path> files = Files.list(Path.of(TESTS))) {
            for (Path file : files.filter(Files::isRegularFile).collect(Collectors.toList())) {
                String name = file.getFileName().toString().replace(".java", "");
                if (!readme.contains("`" + name + "`") && !readme.contains("`" + name + ".")) {
                    unnamed.add(name);
                }
            }
        }
        CHECKS.holds("tests that are not named: " + unnamed, unnamed.isEmpty());
    }
}
