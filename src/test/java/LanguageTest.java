import java.io.IOException;
import java.lang.reflect.Field;
import java.lang.reflect.Method;
import java.lang.reflect.Modifier;
import java.nio.file.Files;
import java.nio.file.Path;
import java.util.ArrayDeque;
import java.util.ArrayList;
import java.util.Deque;
import java.util.List;
import java.util.Set;
import java.util.regex.MatchResult;
import java.util.regex.Matcher;
import java.util.regex.Pattern;

/** The rules of LANGUAGE.md, as far as the class and the text of its source show them. */
public final class LanguageTest {
    /** A method or the constructor, as it stands in the source. */
    private record Body(String name, int start, int end, String text) {
    }

    private static final Set<Class<?>> TYPES = Set.of(
            int.class, long.class, short.class, byte.class, char.class, boolean.class, void.class,
            int[].class, long[].class, short[].class, byte[].class, char[].class, boolean[].class);
    private static final Set<String> NOT_CALLS = Set.of("if", "for", "while", "switch", "return");
    private static final Pattern FIXED_ARRAY =
            Pattern.compile("new\\s+[a-z]+\\s*\\[\\s*([1-9]\\d*|[A-Z][A-Z_\\d]*)\\s*\\]");
    private static final Pattern CALL = Pattern.compile("\\b([A-Za-z_]\\w*)\\s*\\(");

    private static final String CODE = withoutComments("src/main/java/AcyclicJoin.java");
    private static final Field[] FIELDS = AcyclicJoin.class.getDeclaredFields();
    private static final Method[] METHODS = AcyclicJoin.class.getDeclaredMethods();
    private static final List<Body> BODIES = bodies();

    public static void main(String[] args) {
        Due.about("the source is read");
        Due.same("methods and the constructor", BODIES.size(), METHODS.length + 1);
        oneClass();
        types();
        noLibrary();
        arrays();
        staticFields();
        noExceptions();
        noRecursionAndFewCallsDeep();
        sizes();
        noCallInArguments();
        Due.end();
    }

    private static String withoutComments(String file) {
        try {
            return Files.readString(Path.of(file)).replaceAll("(?s)/\\*.*?\\*/", " ").replaceAll("//[^\n]*", "");
        } catch (IOException e) {
            throw new IllegalStateException(e);
        }
    }

    private static List<Body> bodies() {
        List<Body> found = new ArrayList<>();
        Pattern head = Pattern.compile("\\b(\\w+)\\s*\\([^()]*\\)\\s*\\{");
        Matcher method = head.matcher(CODE);
        int from = CODE.indexOf('{');
        while (from >= 0 && method.find(from)) {
            int end = closing(method.end(), '{', '}');
            found.add(new Body(method.group(1), method.end(), end, CODE.substring(method.end(), end)));
            from = end;
        }
        return found;
    }

    /** Where the bracket is closed that was opened just before. */
    private static int closing(int from, char open, char close) {
        int depth = 1;
        int at = from;
        while (at < CODE.length() && depth > 0) {
            depth += CODE.charAt(at) == open ? 1 : CODE.charAt(at) == close ? -1 : 0;
            at++;
        }
        return at - 1;
    }

    private static void hasNone(String words) {
        for (String word : words.split(" ")) {
            Due.yes("no " + word, !Pattern.compile("\\b" + word + "\\b").matcher(CODE).find());
        }
    }

    private static List<String> calls(String text) {
        List<String> called = new ArrayList<>();
        for (MatchResult call : CALL.matcher(text).results().toList()) {
            if (!NOT_CALLS.contains(call.group(1))) {
                called.add(call.group(1));
            }
        }
        return called;
    }

    private static void oneClass() {
        Due.about("rule 1: one class");
        hasNone("package interface enum record protected");
        Due.same("classes", Pattern.compile("\\bclass\\b").matcher(CODE).results().count(), 1);
        for (Field field : FIELDS) {
            Due.yes("public or private: " + field.getName(), isPublic(field.getModifiers())
                    || Modifier.isPrivate(field.getModifiers()));
        }
        for (Method method : METHODS) {
            Due.yes("public or private: " + method.getName(), isPublic(method.getModifiers())
                    || Modifier.isPrivate(method.getModifiers()));
            for (Method other : METHODS) {
                boolean shared = method.getName().equals(other.getName());
                Due.yes("not public and private: " + method.getName(),
                        !shared || isPublic(method.getModifiers()) == isPublic(other.getModifiers()));
            }
        }
    }

    private static boolean isPublic(int modifiers) {
        return Modifier.isPublic(modifiers);
    }

    private static void types() {
        Due.about("rule 2: types");
        hasNone("float double String");
        Due.yes("no string", !CODE.contains("\""));
        for (Field field : FIELDS) {
            Due.yes("type of " + field.getName(), TYPES.contains(field.getType()));
        }
        for (Method method : METHODS) {
            Due.yes("type of " + method.getName(), TYPES.contains(method.getReturnType()));
            for (Class<?> type : method.getParameterTypes()) {
                Due.yes("parameters of " + method.getName(), TYPES.contains(type));
            }
        }
    }

    private static void noLibrary() {
        Due.about("rules 3 and 11: no library, so no clock, file or thread");
        hasNone("import native Math Integer System Arrays Object Thread");
        String own = CODE.replaceAll("\\b(this|AcyclicJoin)\\s*\\.", "").replaceAll("\\.\\s*length\\b", "");
        Due.yes("no member of anything else", !own.contains("."));
        for (Body body : BODIES) {
            for (String called : calls(body.text())) {
                Due.yes("a method of the class: " + called, BODIES.stream().anyMatch(b -> b.name().equals(called)));
            }
        }
    }

    private static void arrays() {
        Due.about("rule 4: arrays");
        hasNone("null");
        for (MatchResult making : Pattern.compile("\\bnew\\b").matcher(CODE).results().toList()) {
            String made = CODE.substring(making.start(), CODE.indexOf(';', making.start()));
            Due.yes("one array of a fixed length: " + made, FIXED_ARRAY.matcher(made).matches());
            Due.yes("made at the start: " + made, isMadeAtStart(making.start()));
        }
        for (Method method : METHODS) {
            Due.yes("no array answered: " + method.getName(), !method.getReturnType().isArray());
        }
        for (Field field : FIELDS) {
            if (field.getType().isArray()) {
                keepsArray(field.getName());
            }
        }
    }

    private static boolean isMadeAtStart(int place) {
        for (Body body : BODIES) {
            if (body.start() <= place && place < body.end()) {
                return body.name().equals("AcyclicJoin");
            }
        }
        return true;
    }

    private static void keepsArray(String array) {
        Pattern assignment = Pattern.compile("\\b" + array + "\\s*=(?!=)");
        for (Body body : BODIES) {
            Due.yes(body.name() + " doesn't assign to " + array,
                    body.name().equals("AcyclicJoin") || !assignment.matcher(body.text()).find());
        }
    }

    private static void staticFields() {
        Due.about("rule 5: static fields");
        Due.yes("no static initialiser", !Pattern.compile("\\bstatic\\s*\\{").matcher(CODE).find());
        for (Field field : FIELDS) {
            if (Modifier.isStatic(field.getModifiers())) {
                boolean number = field.getType() == int.class || field.getType() == long.class;
                Due.yes("a constant: " + field.getName(), number && Modifier.isFinal(field.getModifiers()));
            }
        }
    }

    private static void noExceptions() {
        Due.about("rule 6: no exceptions and the like");
        hasNone("throw throws try catch synchronized assert instanceof");
        Due.yes("no lambda or method reference", !CODE.contains("->") && !CODE.contains("::"));
    }

    private static void noRecursionAndFewCallsDeep() {
        Due.about("rules 8 and 10: no recursion, and calls at most six deep");
        int deepest = 0;
        for (Body body : BODIES) {
            deepest = Math.max(deepest, depth(body.name(), new ArrayDeque<>()));
        }
        Due.yes("at most six deep: " + deepest, deepest <= 6);
    }

    private static int depth(String name, Deque<String> callers) {
        boolean again = callers.contains(name);
        Due.yes("no recursion: " + name + " from " + callers, !again);
        if (again) {
            return 0;
        }
        callers.push(name);
        int below = 0;
        for (Body body : BODIES) {
            if (body.name().equals(name)) {
                for (String called : calls(body.text())) {
                    below = Math.max(below, depth(called, callers));
                }
            }
        }
        callers.pop();
        return below + 1;
    }

    /** The rule says "some sixty" lines and "some forty" fields. */
    private static void sizes() {
        Due.about("rule 10: sizes");
        int fields = 0;
        for (Field field : FIELDS) {
            fields += Modifier.isStatic(field.getModifiers()) ? 0 : 1;
        }
        Due.yes("some forty fields: " + fields, fields <= 44);
        for (Method method : METHODS) {
            Due.yes("at most seven parameters: " + method.getName(), method.getParameterCount() <= 7);
        }
        for (Body body : BODIES) {
            Due.yes("some sixty lines: " + body.name(), body.text().lines().count() <= 66);
        }
    }

    private static void noCallInArguments() {
        Due.about("rule 10: no call in a call's arguments");
        for (MatchResult call : CALL.matcher(CODE).results().toList()) {
            if (!NOT_CALLS.contains(call.group(1))) {
                String arguments = CODE.substring(call.end(), closing(call.end(), '(', ')'));
                Due.yes(call.group() + arguments + ")", calls(arguments).isEmpty());
            }
        }
    }
}
