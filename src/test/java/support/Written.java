import java.io.IOException;
import java.nio.file.Files;
import java.nio.file.Path;
import java.util.ArrayList;
import java.util.Arrays;
import java.util.List;
import java.util.regex.Matcher;
import java.util.regex.Pattern;

/** What stands written in a text: its blocks of code and its calls. */
final class Written {
    private static final Pattern CALL = Pattern.compile("(\\w+)\\(([^()]*)\\)");

    private Written() {
    }

    static String read(String path) throws IOException {
        return Files.readString(Path.of(path));
    }

    /** The blocks of Java code of a text in Markdown, each as its lines without the empty ones. */
    static List<List<String>> javaBlocks(String text) {
        List<List<String>> blocks = new ArrayList<>();
        Matcher block = Pattern.compile("(?s)```java\\n(.*?)```").matcher(text);
        while (block.find()) {
            blocks.add(Arrays.stream(block.group(1).split("\n")).filter(line -> !line.isBlank()).toList());
        }
        return blocks;
    }

    /** Makes a call that is written as a name and numbers; false if it is not written so. */
    static boolean due(Calls x, String call, long want) {
        Matcher parts = CALL.matcher(call);
        if (!parts.matches()) {
            return false;
        }
        int[] arguments = Arrays.stream(parts.group(2).split(",")).map(String::trim).filter(number -> !number.isEmpty())
                .mapToInt(Integer::parseInt).toArray();
        x.due(want, parts.group(1), arguments);
        return true;
    }
}
