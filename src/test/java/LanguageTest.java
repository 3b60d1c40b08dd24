import java.io.IOException;
import java.lang.reflect.Constructor;
import java.lang.reflect.Field;
import java.lang.reflect.Method;
import java.lang.reflect.Modifier;
import java.nio.file.Files;
import java.nio.file.Path;
import java.util.ArrayList;
import java.util.HashSet;
import java.util.LinkedHashMap;
import java.util.List;
import java.util.Map;
import java.util.Set;
import java.util.TreeSet;
import java.util.regex.Matcher;
import java.util.regex.Pattern;

/** What LANGUAGE.md rules out, as far as the text of the class and its face show it. */
public final class LanguageTest {
    private static final Path SOURCE = Path.of("src/main/java/ClosureCompiler.java");

    private static final Set<String> CONSTANTS =
        Set.of("BAD_ARG", "FULL", "TOO_FEW", "NONE", "NUMBER", "CLOSURE", "STUCK", "TIRED");

    private static final Set<String> METHODS = Set.of(
        "int number(int)", "int name(int)", "int two(int)", "int choose()", "int bind(int)", "int function(int,int)",
        "void discard()", "int depth()", "int made()", "int run()", "int value()", "int calls()", "int closures()",
        "int free()");

    /** Keywords that the rules leave no use for. */
    private static final Set<String> FORBIDDEN_WORDS = Set.of(
        "float", "double", "import", "package", "throw", "throws", "try", "catch", "finally", "synchronized", "assert",
        "instanceof", "null", "interface", "enum", "record", "extends", "implements", "protected", "native",
        "volatile", "transient", "var", "super", "abstract", "yield");

    private static int wrong = 0;

    private static void check(boolean holds, String fault) {
        if (!holds) {
            wrong++;
            System.out.println(fault);
        }
    }

    public static void main(String[] args) throws IOException {
        String text = Files.readString(SOURCE).replaceAll("(?s)/\\*.*?\\*/", " ").replaceAll("//[^\n]*", " ");
        checkFace();
        checkFields();
        checkWords(text);
        checkArrays(text);
        checkMethods(methodBodies(text));
        System.out.println(wrong == 0 ? "the class keeps to the rules looked at" : wrong + " rules are broken");
        if (wrong != 0) {
            System.exit(1);
        }
    }

    // Rule 1.
    private static void checkFace() {
        Class<?> type = ClosureCompiler.class;
        check(type.getModifiers() == (Modifier.PUBLIC | Modifier.FINAL), "class: not public final");
        check(type.getDeclaredClasses().length == 0, "class: has a nested class");
        Constructor<?>[] constructors = type.getDeclaredConstructors();
        check(constructors.length == 1 && constructors[0].getParameterCount() == 0
            && Modifier.isPublic(constructors[0].getModifiers()), "constructor: not the one of the document");
        Set<String> found = new HashSet<>();
        Set<String> publicNames = new HashSet<>();
        for (Method method : type.getDeclaredMethods()) {
            if (!Modifier.isPrivate(method.getModifiers())) {
                List<String> types = new ArrayList<>();
                for (Class<?> parameter : method.getParameterTypes()) {
                    types.add(parameter.getName());
                }
                found.add(method.getReturnType() + " " + method.getName() + "(" + String.join(",", types) + ")");
                publicNames.add(method.getName());
                check(method.getModifiers() == Modifier.PUBLIC, method.getName() + ": not public alone");
            }
        }
        check(found.equals(METHODS), "methods: " + new TreeSet<>(found) + " are not those of the document");
        for (Method method : type.getDeclaredMethods()) {
            check(!Modifier.isPrivate(method.getModifiers()) || !publicNames.contains(method.getName()),
                method.getName() + ": a private method with a public one's name");
            check(method.getParameterCount() <= 7, method.getName() + ": more than seven parameters");
        }
    }

    // Rules 1, 2, 5 and 10.
    private static void checkFields() {
        Set<String> found = new HashSet<>();
        int own = 0;
        for (Field field : ClosureCompiler.class.getDeclaredFields()) {
            int modifiers = field.getModifiers();
            if (!Modifier.isPrivate(modifiers)) {
                found.add(field.getName());
                check(modifiers == (Modifier.PUBLIC | Modifier.STATIC | Modifier.FINAL),
                    field.getName() + ": no constant");
            }
            Class<?> type = field.getType();
            if (Modifier.isStatic(modifiers)) {
                check(Modifier.isFinal(modifiers) && (type == int.class || type == long.class),
                    field.getName() + ": static, but no constant of int or long");
            } else {
                own++;
                Class<?> element = type.isArray() ? type.getComponentType() : type;
                check(element.isPrimitive() && element != float.class && element != double.class,
                    field.getName() + ": of a type that is ruled out");
            }
        }
        check(found.equals(CONSTANTS), "constants: " + new TreeSet<>(found) + " are not those of the document");
        check(own <= 40, "fields: " + own);
    }

    // Rules 2, 3 and 6.
    private static void checkWords(String text) {
        Matcher words = Pattern.compile("[A-Za-z_$][A-Za-z0-9_$]*").matcher(text);
        while (words.find()) {
            String word = words.group();
            check(!FORBIDDEN_WORDS.contains(word), "word: " + word);
            boolean typeName = Character.isUpperCase(word.charAt(0)) && !word.equals(word.toUpperCase());
            check(!typeName || word.equals("ClosureCompiler"), "another class: " + word);
        }
        check(!text.contains("->") && !text.contains("::") && !text.contains("\"") && !text.contains("@"),
            "text: a lambda, a method reference, a String or an annotation");
    }

    // Rule 4: every array is made in a field's initialiser.
    private static void checkArrays(String text) {
        Matcher all = Pattern.compile("\\bnew\\b").matcher(text);
        Matcher good =
            Pattern.compile("(?m)^    private final (\\w+)\\[\\] \\w+ = new \\1\\[[A-Z0-9_]+\\];$").matcher(text);
        check(all.results().count() == good.results().count(), "new: not in the initialiser of an array field");
    }

    private static Map<String, String> methodBodies(String text) {
        Map<String, String> bodies = new LinkedHashMap<>();
        Pattern method =
            Pattern.compile("(?ms)^    (?:public|private) (?:static )?\\w+ (\\w+)\\([^)]*\\) \\{(.*?)^    \\}");
        Matcher methods = method.matcher(text);
        while (methods.find()) {
            bodies.put(methods.group(1), methods.group(2));
        }
        return bodies;
    }

    // Rules 8 and 10.
    private static void checkMethods(Map<String, String> bodies) {
        int methodCount = ClosureCompiler.class.getDeclaredMethods().length;
        check(bodies.size() == methodCount, "methods: not all are seen in the text");
        Pattern call = Pattern.compile("\\b([a-z]\\w*)\\(");
        for (Map.Entry<String, String> method : bodies.entrySet()) {
            String body = method.getValue();
            check(body.lines().count() <= 60, method.getKey() + ": longer than sixty lines");
            int depth = deepest(method.getKey(), bodies, call, 1);
            check(depth <= 6, method.getKey() + ": calls go too deep, or in a ring");
            check(!body.contains("while"), method.getKey() + ": a loop without a counter");
            Matcher loops = Pattern.compile("for \\(([^;]*);([^;]*);([^{]*)\\{").matcher(body);
            while (loops.find()) {
                boolean counted = loops.group(2).contains("<") && loops.group(3).contains("++");
                check(counted, method.getKey() + ": a loop without a counter");
            }
            check(!callWithinCall(body, bodies.keySet()), method.getKey() + ": a call within a call's arguments");
        }
    }

    private static int deepest(String method, Map<String, String> bodies, Pattern call, int depth) {
        int most = depth;
        Matcher calls = call.matcher(bodies.get(method));
        while (depth <= 6 && calls.find()) {
            if (bodies.containsKey(calls.group(1))) {
                most = Math.max(most, deepest(calls.group(1), bodies, call, depth + 1));
            }
        }
        return most;
    }

    private static boolean callWithinCall(String body, Set<String> methods) {
        Matcher calls = Pattern.compile("\\b(\\w+)\\(").matcher(body);
        while (calls.find()) {
            if (methods.contains(calls.group(1))) {
                String arguments = argumentsFrom(body, calls.end());
                if (Pattern.compile("\\w\\(").matcher(arguments).find()) {
                    return true;
                }
            }
        }
        return false;
    }

    private static String argumentsFrom(String body, int start) {
        int open = 1;
        int end = start;
        while (open > 0 && end < body.length()) {
            char c = body.charAt(end);
            open += c == '(' ? 1 : c == ')' ? -1 : 0;
            end++;
        }
        return body.substring(start, end);
    }
}
