import java.io.IOException;
import java.lang.reflect.Field;
import java.lang.reflect.Member;
import java.lang.reflect.Method;
import java.lang.reflect.Modifier;
import java.util.Arrays;
import java.util.LinkedHashSet;
import java.util.List;
import java.util.Set;
import java.util.TreeSet;
import java.util.regex.Matcher;
import java.util.regex.Pattern;
import java.util.stream.Collectors;

/** The class against the text of ../shared/DOC.md: its face, its constants, its examples, its heads. */
public final class DocumentTest {
    private static final Checks CHECKS = new Checks();
    private static final int PROMISES = 25;
    private static final int EXAMPLES = 4;

    public static void main(String[] args) throws IOException, IllegalAccessException {
        String document = Written.read("../shared/DOC.md");
        Set<String> face = writtenFace(document);
        CHECKS.part("the public face of the document");
        same("public members", declaredFace(), face);
        constants(document);
        promises(document, face);
        examples(document);
        CHECKS.finish();
    }

    private static void same(String what, Set<String> got, Set<String> want) {
        Set<String> due = new TreeSet<>(want);
        CHECKS.holds(what + " are " + new TreeSet<>(got) + ", due are " + due, got.equals(due));
    }

    /** The lines of the document's block of code, with the types of parameters alone. */
    private static Set<String> writtenFace(String document) {
        List<List<String>> blocks = Written.javaBlocks(document);
        CHECKS.due("blocks of code", blocks.size(), 1);
        List<String> lines = blocks.get(0);
        CHECKS.holds("the class is named first", lines.get(0).equals("public final class SimplicialSet {"));
        Set<String> face = new LinkedHashSet<>();
        for (String line : lines.subList(1, lines.size() - 1)) {
            face.add(withoutNames(line.trim().replaceAll("^public |;$", "")));
        }
        return face;
    }

    private static String withoutNames(String signature) {
        return signature.replaceAll("(int|long) \\w+(?=[,)])", "$1");
    }

    private static Set<String> declaredFace() throws IllegalAccessException {
        Class<?> type = SimplicialSet.class;
        CHECKS.due("modifiers of the class", type.getModifiers(), Modifier.PUBLIC | Modifier.FINAL);
        Set<String> face = new TreeSet<>();
        for (Field field : type.getDeclaredFields()) {
            if (isSeen(field)) {
                face.add("static final " + field.getType() + " " + field.getName() + " = " + field.getInt(null));
            }
        }
        for (Method method : type.getDeclaredMethods()) {
            if (isSeen(method)) {
                String types = Arrays.stream(method.getParameterTypes()).map(Class::getName).collect(Collectors.joining(", "));
                face.add(method.getReturnType() + " " + method.getName() + "(" + types + ")");
            }
        }
        for (Member constructor : type.getDeclaredConstructors()) {
            face.add(constructor.toString().replace("public ", ""));
        }
        return face;
    }

    private static boolean isSeen(Member member) {
        return !Modifier.isPrivate(member.getModifiers()) && !member.isSynthetic();
    }

    private static void constants(String document) throws IllegalAccessException {
        CHECKS.part("the document's list of the constants");
        Matcher line = Pattern.compile("(?m)^- `([A-Z_]+) = (-\\d+)`").matcher(document);
        int found = 0;
        while (line.find()) {
            found++;
            CHECKS.due(line.group(1), valueOf(line.group(1)), Integer.parseInt(line.group(2)));
        }
        CHECKS.due("constants", found, 9);
    }

    private static int valueOf(String constant) throws IllegalAccessException {
        for (Field field : SimplicialSet.class.getFields()) {
            if (field.getName().equals(constant)) {
                return field.getInt(null);
            }
        }
        return 0;
    }

    /** Each head names a member of the face, and with the constants they are the whole of it. */
    private static void promises(String document, Set<String> face) {
        CHECKS.part("the heads of the promises");
        Matcher head = Pattern.compile("(?m)^## Promise (\\d+): .*\\n\\n`(.*)`$").matcher(document);
        Set<String> promised = new TreeSet<>();
        while (head.find()) {
            promised.add(withoutNames(head.group(2)));
            CHECKS.due("number of a promise", Integer.parseInt(head.group(1)), promised.size());
        }
        CHECKS.due("promises", promised.size(), PROMISES);
        same("promised members", promised, face.stream().filter(line -> !line.startsWith("static")).collect(Collectors.toSet()));
    }

    private static void examples(String document) {
        Matcher example = Pattern.compile("(?m)^(\\d)\\. [^:]*: (.* = .*)\\.$").matcher(document);
        int found = 0;
        while (example.find()) {
            found++;
            CHECKS.part("example " + example.group(1));
            Calls x = new Calls(CHECKS);
            for (String call : example.group(2).split("; ")) {
                String[] sides = call.split(" = ");
                CHECKS.holds("it is a call: " + call, Written.due(x, sides[0], Long.parseLong(sides[1])));
            }
        }
        CHECKS.part("the examples");
        CHECKS.due("examples", found, EXAMPLES);
    }
}
