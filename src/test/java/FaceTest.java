import java.lang.reflect.Constructor;
import java.lang.reflect.Field;
import java.lang.reflect.Method;
import java.lang.reflect.Modifier;
import java.util.Arrays;
import java.util.HashSet;
import java.util.Map;
import java.util.Set;
import java.util.TreeMap;
import java.util.regex.Matcher;
import java.util.regex.Pattern;

/** The public face and the constants of the document, and that there are no others. */
public final class FaceTest {
    private static final Object[][] CONSTANTS = {
        {"OK", 0}, {"MOVED", 1},
        {"WRONG_PHASE", -1}, {"BAD", -2}, {"FULL", -3}, {"DUPLICATE", -4},
        {"ABSENT", -5}, {"EMPTY", -6}, {"AT_START", -7}, {"AT_END", -8},
        {"LOADING", 0}, {"READY", 1}, {"CYCLIC", 2},
        {"STORED", 1}, {"LIVE", 2}, {"DANGLING", 3},
    };
    private static final Map<String, Integer> METHODS = new TreeMap<>(Map.ofEntries(
            Map.entry("addAtom", 1), Map.entry("addRow", 4), Map.entry("dropRow", 4), Map.entry("compile", 0),
            Map.entry("reopen", 0), Map.entry("phase", 0), Map.entry("scope", 1), Map.entry("residue", 0),
            Map.entry("residueOf", 1), Map.entry("rowState", 4), Map.entry("live", 1), Map.entry("count", 0),
            Map.entry("next", 1), Map.entry("skip", 2), Map.entry("rewind", 1), Map.entry("value", 2)));

    public static void main(String[] args) throws Exception {
        constantsAreThoseOfTheDocument();
        classAndConstructor();
        methodsAreThoseOfTheDocument();
        listsAreThoseOfTheDocument();
        Due.end();
    }

    private static void constantsAreThoseOfTheDocument() throws Exception {
        Set<String> wanted = new HashSet<>();
        for (Object[] constant : CONSTANTS) {
            Field field = AcyclicJoin.class.getDeclaredField((String) constant[0]);
            int modifiers = Modifier.PUBLIC | Modifier.STATIC | Modifier.FINAL;
            wanted.add(field.getName());
            Due.same("modifiers of " + field.getName(), field.getModifiers(), modifiers);
            Due.yes("int " + field.getName(), field.getType() == int.class);
            Due.same(field.getName(), field.getInt(null), (Integer) constant[1]);
        }
        for (Field field : AcyclicJoin.class.getDeclaredFields()) {
            boolean isPrivate = Modifier.isPrivate(field.getModifiers());
            Due.yes("private or of the document: " + field.getName(), isPrivate != wanted.contains(field.getName()));
        }
    }

    private static void classAndConstructor() {
        Due.same("modifiers of the class", AcyclicJoin.class.getModifiers(), Modifier.PUBLIC | Modifier.FINAL);
        Due.same("nested classes", AcyclicJoin.class.getDeclaredClasses().length, 0);
        Constructor<?>[] constructors = AcyclicJoin.class.getDeclaredConstructors();
        Due.same("constructors", constructors.length, 1);
        Due.same("modifiers of the constructor", constructors[0].getModifiers(), Modifier.PUBLIC);
        Class<?>[] four = {int.class, int.class, int.class, int.class};
        Due.yes("four ints", Arrays.equals(constructors[0].getParameterTypes(), four));
    }

    private static void methodsAreThoseOfTheDocument() {
        Set<String> seen = new HashSet<>();
        for (Method method : AcyclicJoin.class.getDeclaredMethods()) {
            String name = method.getName();
            if (!METHODS.containsKey(name)) {
                Due.yes("private: " + name, Modifier.isPrivate(method.getModifiers()));
                continue;
            }
            Due.yes("once: " + name, seen.add(name));
            Due.same("modifiers of " + name, method.getModifiers(), Modifier.PUBLIC);
            Due.same("parameters of " + name, method.getParameterCount(), METHODS.get(name));
            Due.yes("answer of " + name, method.getReturnType() == int.class);
            for (Class<?> type : method.getParameterTypes()) {
                Due.yes("parameters of " + name + " are ints", type == int.class);
            }
        }
        Due.same("methods of the document", seen.size(), METHODS.size());
    }

    /** The lists above are those of the document, so they can't fall behind it. */
    private static void listsAreThoseOfTheDocument() {
        Map<String, Integer> constants = new TreeMap<>();
        Map<String, Integer> methods = new TreeMap<>();
        Matcher constant = Pattern.compile("public static final int (\\w+) = (-?\\d+);").matcher(Sentences.document());
        while (constant.find()) {
            constants.put(constant.group(1), Integer.valueOf(constant.group(2)));
        }
        Matcher method = Pattern.compile("public int (\\w+)\\((.*)\\);").matcher(Sentences.document());
        while (method.find()) {
            String parameters = method.group(2);
            methods.put(method.group(1), parameters.isEmpty() ? 0 : parameters.split(",").length);
        }
        Map<String, Integer> listed = new TreeMap<>();
        for (Object[] each : CONSTANTS) {
            listed.put((String) each[0], (Integer) each[1]);
        }
        Due.yes("constants of the document " + constants, constants.equals(listed));
        Due.yes("methods of the document " + methods, methods.equals(METHODS));
    }
}
