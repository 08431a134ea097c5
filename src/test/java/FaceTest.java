import java.lang.reflect.Constructor;
import java.lang.reflect.Field;
import java.lang.reflect.Method;
import java.lang.reflect.Modifier;
import java.nio.file.Files;
import java.nio.file.Path;
import java.util.Arrays;
import java.util.HashSet;
import java.util.Map;
import java.util.Set;
import java.util.TreeMap;
import java.util.regex.Matcher;
import java.util.regex.Pattern;

/** The public face and constants of the document, and the rules of LANGUAGE.md that can be seen from outside. */
public final class FaceTest {
    private static final Object[][] CONSTANTS = {
        {"OK", 0}, {"MOVED", 1},
        {"WRONG_PHASE", -1}, {"BAD", -2}, {"FULL", -3}, {"DUPLICATE", -4},
        {"ABSENT", -5}, {"EMPTY", -6}, {"AT_START", -7}, {"AT_END", -8},
        {"LOADING", 0}, {"READY", 1}, {"CYCLIC", 2},
        {"STORED", 1}, {"LIVE", 2}, {"DANGLING", 3},
    };
    private static final Map<String, Integer> METHODS = new TreeMap<>(Map.ofEntries(
            Map.entry("addAtom", 1), Map.entry("addRow", 4), Map.entry("dropRow", 4), Map.entry("compile", 0),
            Map.entry("reopen", 0), Map.entry("phase", 0), Map.entry("scope", 1), Map.entry("residue", 0),
            Map.entry("residueOf", 1), Map.entry("rowState", 4), Map.entry("live", 1), Map.entry("count", 0),
            Map.entry("next", 1), Map.entry("skip", 2), Map.entry("rewind", 1), Map.entry("value", 2)));
    private static final Set<Class<?>> NUMBERS = Set.of(
            int.class, long.class, short.class, byte.class, char.class, boolean.class, void.class,
            int[].class, long[].class, short[].class, byte[].class, char[].class, boolean[].class);

    public static void main(String[] args) throws Exception {
        constantsAreThoseOfTheDocument();
        classAndConstructor();
        methodsAreThoseOfTheDocument();
        fieldsKeepToTheRules();
        sourceKeepsToTheRules(Files.readString(Path.of("src/main/java/AcyclicJoin.java")));
        Due.end();
    }

    private static void constantsAreThoseOfTheDocument() throws Exception {
        Set<String> wanted = new HashSet<>();
        for (Object[] constant : CONSTANTS) {
            Field field = AcyclicJoin.class.getDeclaredField((String) constant[0]);
            int modifiers = Modifier.PUBLIC | Modifier.STATIC | Modifier.FINAL;
            wanted.add(field.getName());
            Due.same("modifiers of " + field.getName(), field.getModifiers(), modifiers);
            Due.yes("int " + field.getName(), field.getType() == int.class);
            Due.same(field.getName(), field.getInt(null), (Integer) constant[1]);
        }
        for (Field field : AcyclicJoin.class.getDeclaredFields()) {
            boolean isPrivate = Modifier.isPrivate(field.getModifiers());
            Due.yes("private or of the document: " + field.getName(), isPrivate != wanted.contains(field.getName()));
        }
    }

    private static void classAndConstructor() {
        Due.same("modifiers of the class", AcyclicJoin.class.getModifiers(), Modifier.PUBLIC | Modifier.FINAL);
        Due.same("nested classes", AcyclicJoin.class.getDeclaredClasses().length, 0);
        Constructor<?>[] constructors = AcyclicJoin.class.getDeclaredConstructors();
        Due.same("constructors", constructors.length, 1);
        Due.same("modifiers of the constructor", constructors[0].getModifiers(), Modifier.PUBLIC);
        Class<?>[] four = {int.class, int.class, int.class, int.class};
        Due.yes("four ints", Arrays.equals(constructors[0].getParameterTypes(), four));
    }

    private static void methodsAreThoseOfTheDocument() {
        Set<String> seen = new HashSet<>();
        for (Method method : AcyclicJoin.class.getDeclaredMethods()) {
            String name = method.getName();
            Due.yes("at most seven parameters: " + name, method.getParameterCount() <= 7);
            Due.yes("no array answered: " + name, !method.getReturnType().isArray());
            Due.yes("type of " + name, NUMBERS.contains(method.getReturnType()));
            for (Class<?> type : method.getParameterTypes()) {
                Due.yes("parameter types of " + name, NUMBERS.contains(type));
            }
            if (!METHODS.containsKey(name)) {
                Due.yes("private: " + name, Modifier.isPrivate(method.getModifiers()));
                continue;
            }
            Due.yes("once: " + name, seen.add(name));
            Due.same("modifiers of " + name, method.getModifiers(), Modifier.PUBLIC);
            Due.same("parameters of " + name, method.getParameterCount(), METHODS.get(name));
            Due.yes("answer of " + name, method.getReturnType() == int.class);
            for (Class<?> type : method.getParameterTypes()) {
                Due.yes("parameters of " + name + " are ints", type == int.class);
            }
        }
        Due.same("methods of the document", seen.size(), METHODS.size());
    }

    private static void fieldsKeepToTheRules() {
        int kept = 0;
        for (Field field : AcyclicJoin.class.getDeclaredFields()) {
            Due.yes("type of " + field.getName(), NUMBERS.contains(field.getType()));
            if (Modifier.isStatic(field.getModifiers())) {
                boolean number = field.getType() == int.class || field.getType() == long.class;
                Due.yes("constant " + field.getName(), number && Modifier.isFinal(field.getModifiers()));
            } else {
                kept++;
            }
        }
        Due.yes("at most forty fields", kept <= 40);
    }

    private static void sourceKeepsToTheRules(String source) {
        String code = source.replaceAll("(?s)/\\*.*?\\*/", " ").replaceAll("//[^\n]*", " ");
        String[] words = {"package", "import", "throw", "throws", "try", "catch", "synchronized", "assert",
            "instanceof", "null", "float", "double", "String", "Math", "Integer", "System", "Arrays", "Object",
            "enum", "record", "interface", "var", "protected", "native"};
        for (String word : words) {
            Due.yes("no " + word, !Pattern.compile("\\b" + word + "\\b").matcher(code).find());
        }
        Due.yes("no lambda or method reference", !code.contains("->") && !code.contains("::"));
        Due.yes("no string", !code.contains("\""));
        // Every array is made where its field is declared.
        Matcher making = Pattern.compile("\\bnew\\b").matcher(code);
        Matcher inField = Pattern.compile("private final \\w+\\[\\] \\w+ = new \\w+\\[[A-Z_]+\\];").matcher(code);
        Due.same("arrays made outside fields", making.results().count(), inField.results().count());
        for (String line : code.split("\n")) {
            Due.yes("no call in a call's arguments: " + line.trim(), !callsInsideArguments(line));
        }
    }

    private static boolean callsInsideArguments(String line) {
        Set<String> notCalls = Set.of("if", "for", "while", "switch", "return");
        Matcher call = Pattern.compile("\\b(\\w+)\\(").matcher(line);
        while (call.find()) {
            if (notCalls.contains(call.group(1))) {
                continue;
            }
            int depth = 1;
            int end = call.end();
            while (end < line.length() && depth > 0) {
                depth += line.charAt(end) == '(' ? 1 : line.charAt(end) == ')' ? -1 : 0;
                end++;
            }
            if (Pattern.compile("\\w\\(").matcher(line.substring(call.end(), end)).find()) {
                return true;
            }
        }
        return false;
    }
}
