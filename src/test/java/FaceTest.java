import java.io.IOException;
import java.lang.reflect.Constructor;
import java.lang.reflect.Field;
import java.lang.reflect.Member;
import java.lang.reflect.Method;
import java.lang.reflect.Modifier;
import java.nio.file.Files;
import java.nio.file.Path;
import java.util.ArrayList;
import java.util.Arrays;
import java.util.List;
import java.util.Set;
import java.util.TreeSet;
import java.util.regex.Pattern;
import java.util.stream.Collectors;

/** The class shows exactly the document's face, and its text keeps to LANGUAGE.md where that is easy to see. */
public final class FaceTest {
    private static final Checks CHECKS = new Checks();
    private static final String[] CONSTANTS = {
        "NO_SUCH_CELL=-101", "BAD_DIMENSION=-102", "BAD_MASK=-103", "BAD_INDEX=-104", "FULL=-105",
        "NO_DRAFT=-106", "INCOMPLETE=-107", "IDENTITY=-108", "NONE=-109"
    };
    private static final String[] METHODS = {
        "int addVertex()", "int beginCell(int)", "int setFace(int,int,int)", "int endCell()", "int clear()",
        "int cellCount(int)", "int dimension(int)", "int faceCell(int,int,int,int)",
        "int faceMask(int,int,int,int)", "int degeneracyMask(int,int,int,int)", "int vertex(int,int,int,int)",
        "int simplexCount(int)", "int eulerCharacteristic()", "int partCount()", "int incidence(int,int)",
        "int betti(int)", "int torsionCount(int)", "long torsion(int,int)", "int hornCount(int)",
        "int unfilledCount(int)", "int loadSimplex(int)", "int loadSphere(int)", "int save()", "int product()"
    };
    private static final Path SOURCE = Path.of("src/main/java/SimplicialSet.java");
    private static final String[] LIBRARY = {
        "Arrays.fill", "System.arraycopy", "Integer.bitCount", "Integer.highestOneBit", "Math.max", "Math.min"
    };
    private static final String[] FORBIDDEN = {
        "\\bthrow\\b", "\\bthrows\\b", "\\btry\\b", "\\bcatch\\b", "\\bsynchronized\\b", "\\bassert\\b", "->", "::",
        "\\bnew\\s+\\w+\\s*\\([^)]*\\)\\s*\\{", "Exact\\b", "\\bstatic\\s*\\{", "^\\s*package\\b", "\\bhashCode\\b", "\\btoString\\b"
    };

    public static void main(String[] args) throws IOException, IllegalAccessException {
        face();
        privateNames();
        classesInside();
        parameters();
        text();
        library();
        CHECKS.finish();
    }

    private static boolean isPrivate(Member member) {
        return Modifier.isPrivate(member.getModifiers()) || member.isSynthetic();
    }

    private static void same(String what, Set<String> got, String... want) {
        Set<String> due = new TreeSet<>(Arrays.asList(want));
        CHECKS.holds(what + " are " + got + ", due are " + due, got.equals(due));
    }

    private static String signature(Method method) {
        String types = Arrays.stream(method.getParameterTypes()).map(Class::getName).collect(Collectors.joining(","));
        return method.getReturnType().getName() + " " + method.getName() + "(" + types + ")";
    }

    private static void face() throws IllegalAccessException {
        CHECKS.part("the public face");
        Class<?> type = SimplicialSet.class;
        CHECKS.holds("the class is public", Modifier.isPublic(type.getModifiers()));
        CHECKS.holds("the class is final", Modifier.isFinal(type.getModifiers()));
        Set<String> constants = new TreeSet<>();
        for (Field field : type.getDeclaredFields()) {
            if (!isPrivate(field)) {
                CHECKS.due("modifiers of " + field.getName(), field.getModifiers(),
                        Modifier.PUBLIC | Modifier.STATIC | Modifier.FINAL);
                constants.add(field.getName() + "=" + field.getInt(null));
            }
        }
        same("constants", constants, CONSTANTS);
        Set<String> methods = new TreeSet<>();
        for (Method method : type.getDeclaredMethods()) {
            if (!isPrivate(method)) {
                CHECKS.due("modifiers of " + method.getName(), method.getModifiers(), Modifier.PUBLIC);
                methods.add(signature(method));
            }
        }
        same("methods", methods, METHODS);
        Constructor<?>[] constructors = type.getDeclaredConstructors();
        CHECKS.due("constructors", constructors.length, 1);
        CHECKS.due("parameters of the constructor", constructors[0].getParameterCount(), 0);
        CHECKS.due("modifiers of the constructor", constructors[0].getModifiers(), Modifier.PUBLIC);
    }

    private static void privateNames() {
        CHECKS.part("private names");
        Set<String> names = Arrays.stream(METHODS).map(m -> m.replaceAll(".* |\\(.*", "")).collect(Collectors.toSet());
        for (Class<?> type : allClasses()) {
            for (Method method : type.getDeclaredMethods()) {
                boolean isPromised = type == SimplicialSet.class && Modifier.isPublic(method.getModifiers());
                CHECKS.holds(method + " has a name of its own", isPromised || !names.contains(method.getName()));
            }
        }
    }

    private static List<Class<?>> allClasses() {
        List<Class<?>> all = new ArrayList<>(List.of(SimplicialSet.class.getDeclaredClasses()));
        all.add(SimplicialSet.class);
        return all;
    }

    private static void classesInside() {
        CHECKS.part("classes inside");
        CHECKS.holds("at most twelve classes", allClasses().size() <= 12);
        for (Class<?> type : allClasses()) {
            int modifiers = type.getModifiers();
            boolean isInside = Modifier.isStatic(modifiers) && !Modifier.isPublic(modifiers) && !Modifier.isProtected(modifiers);
            CHECKS.holds(type + " is static and not public", isInside || type == SimplicialSet.class);
            CHECKS.holds(type + " has no class inside", type == SimplicialSet.class || type.getDeclaredClasses().length == 0);
            int fields = 0;
            for (Field field : type.getDeclaredFields()) {
                boolean isStatic = Modifier.isStatic(field.getModifiers());
                CHECKS.holds(field + " is final if it is static", !isStatic || Modifier.isFinal(field.getModifiers()));
                fields += isStatic ? 0 : 1;
            }
            CHECKS.holds(type + " has at most twenty fields", fields <= 20);
        }
    }

    private static void parameters() {
        CHECKS.part("parameters");
        for (Class<?> type : allClasses()) {
            for (Method method : type.getDeclaredMethods()) {
                CHECKS.holds(method + " has at most seven", method.getParameterCount() <= 7);
            }
        }
    }

    /** Of the library, the class uses a few functions alone, each of which LANGUAGE.md lists. */
    private static void library() throws IOException {
        CHECKS.part("the library");
        String code = code();
        Set<String> used = Pattern.compile("\\b[A-Z]\\w*\\.[a-z]\\w*\\(").matcher(code).results()
                .map(result -> result.group().replace("(", "")).collect(Collectors.toCollection(TreeSet::new));
        used.removeAll(Set.of(LIBRARY));
        CHECKS.holds("others are used: " + used, used.isEmpty());
        CHECKS.holds("Arrays alone is imported", code.replaceFirst("import java.util.Arrays;", "").indexOf("import ") < 0);
        CHECKS.holds("no name in full", !Pattern.compile("\\bjava\\.(?!util\\.Arrays;)").matcher(code).find());
    }

    private static String code() throws IOException {
        String text = Files.readString(SOURCE);
        return text.replaceAll("(?s)/\\*.*?\\*/", "").replaceAll("//[^\n]*", "");
    }

    private static void text() throws IOException {
        CHECKS.part("the text");
        String code = code();
        for (String forbidden : FORBIDDEN) {
            boolean found = Pattern.compile(forbidden, Pattern.MULTILINE).matcher(code).find();
            CHECKS.holds("no " + forbidden, !found);
        }
        for (String line : code.split("\n")) {
            boolean isField = line.matches(" *(private |final )+[\\w\\[\\]]+ \\w+ = new .*;");
            CHECKS.holds("objects are made with their owner alone: " + line, !line.matches(".*\\bnew\\b.*") || isField);
        }
        CHECKS.holds("signs 1 to 127 alone", Files.readString(SOURCE).chars().allMatch(sign -> sign > 0 && sign < 128));
    }
}
