import java.io.IOException;
import java.lang.reflect.Constructor;
import java.lang.reflect.Field;
import java.lang.reflect.Method;
import java.lang.reflect.Modifier;
import java.nio.file.Files;
import java.nio.file.Path;
import java.util.HashMap;
import java.util.HashSet;
import java.util.List;
import java.util.Map;
import java.util.Set;
import java.util.TreeSet;
import java.util.regex.Matcher;
import java.util.regex.Pattern;

/** What can be told mechanically of ../shared/LANGUAGE.md: the face, types, words, arrays, and how methods call each other. */
public final class LanguageTest {
    private static final Path SOURCE = Path.of("src/main/java/ContractEngine.java");
    private static final Set<String> FACE = Set.of("int put(int,int)", "int deploy(int)", "int call(int,int,int,int)", "int result()",
        "int used()", "int calls()", "int events()", "int event(int,int)", "int balance(int)", "int cell(int,int)", "long digest(int)",
        "int past(int,int,int)", "int back(int)", "int version()", "int kept()");
    private static final Set<String> CONSTANTS = Set.of("OK", "REVERTED", "OUT", "FAULT", "DENIED", "REFUSED");
    private static final Set<Class<?>> TYPES = Set.of(int.class, long.class, short.class, byte.class, char.class, boolean.class, void.class,
        int[].class, long[].class, short[].class, byte[].class, char[].class, boolean[].class);
    private static final List<String> NO_WORDS = List.of("import", "package", "float", "double", "String", "Object", "Math", "Integer",
        "Long", "System", "Arrays", "throw", "throws", "try", "catch", "finally", "synchronized", "assert", "instanceof", "null", "enum",
        "interface", "record", "protected", "volatile", "transient", "native", "super", "var", "yield");

    private static int wrong = 0;

    private static void rule(int number, boolean kept, String what) {
        if (!kept) {
            wrong++;
            System.out.println("rule " + number + ": " + what);
        }
    }

    private static String withoutComments(String text) {
        return text.replaceAll("(?s)/\\*.*?\\*/", "").replaceAll("//[^\n]*", "");
    }

    private static void methods() {
        Set<String> open = new HashSet<>();
        Set<String> openNames = new HashSet<>();
        for (Method m : ContractEngine.class.getDeclaredMethods()) {
            if (!Modifier.isPrivate(m.getModifiers())) {
                StringBuilder types = new StringBuilder();
                for (Class<?> type : m.getParameterTypes()) {
                    types.append(types.length() == 0 ? "" : ",").append(type.getName());
                }
                open.add(m.getReturnType().getName() + " " + m.getName() + "(" + types + ")");
                openNames.add(m.getName());
                rule(1, m.getModifiers() == Modifier.PUBLIC, m.getName() + " is not just public");
            }
        }
        rule(1, open.equals(FACE), "the open methods are " + open);
        for (Method m : ContractEngine.class.getDeclaredMethods()) {
            boolean hidden = Modifier.isPrivate(m.getModifiers());
            rule(1, !hidden || !openNames.contains(m.getName()), "a private method has the open name " + m.getName());
            rule(2, TYPES.contains(m.getReturnType()), m.getName() + " answers another type");
            rule(4, !m.getReturnType().isArray(), m.getName() + " answers an array");
            rule(10, m.getParameterCount() <= 7, m.getName() + " takes too much");
            for (Class<?> type : m.getParameterTypes()) {
                rule(2, TYPES.contains(type), m.getName() + " takes another type");
            }
        }
        Constructor<?>[] makers = ContractEngine.class.getDeclaredConstructors();
        rule(1, makers.length == 1 && makers[0].getModifiers() == Modifier.PUBLIC && makers[0].getParameterCount() == 1
            && makers[0].getParameterTypes()[0] == int.class, "the constructor is another one");
    }

    private static void fields() {
        int own = 0;
        Set<String> open = new HashSet<>();
        for (Field f : ContractEngine.class.getDeclaredFields()) {
            boolean isStatic = Modifier.isStatic(f.getModifiers());
            boolean isNumber = f.getType() == int.class || f.getType() == long.class;
            own += isStatic ? 0 : 1;
            if (!Modifier.isPrivate(f.getModifiers())) {
                open.add(f.getName());
            }
            rule(2, TYPES.contains(f.getType()), f.getName() + " is of another type");
            rule(5, !isStatic || (isNumber && Modifier.isFinal(f.getModifiers())), f.getName() + " is no constant");
        }
        rule(1, open.equals(CONSTANTS), "the open fields are " + open);
        rule(1, Modifier.isPublic(ContractEngine.class.getModifiers()) && Modifier.isFinal(ContractEngine.class.getModifiers()),
            "the class is not public and final");
        rule(1, ContractEngine.class.getDeclaredClasses().length == 0, "there is a class inside");
        rule(10, own <= 40, own + " fields");
    }

    private static void words(String text) {
        for (String word : NO_WORDS) {
            rule(3, !Pattern.compile("\\b" + word + "\\b").matcher(text).find(), "the word " + word);
        }
        rule(6, !text.contains("::"), "a method reference");
        rule(2, !text.contains("\""), "a text");
        Matcher making = Pattern.compile("[^\n]*\\bnew\\b[^\n]*").matcher(text);
        while (making.find()) {
            boolean inField = making.group().matches("    private final \\w+\\[\\] \\w+ = new \\w+\\[\\w+\\];");
            rule(4, inField, "made elsewhere than in a field: " + making.group().trim());
        }
        Matcher loop = Pattern.compile("[^\n]*\\b(for|while|do)\\b[^\n]*").matcher(text);
        while (loop.find()) {
            boolean counts = loop.group().matches(" *for \\(int (\\w+) = \\w+; \\1 < [A-Z_]+( && [^;]*)?; \\1\\+\\+\\) \\{");
            rule(8, counts, "a loop without a counter against a constant: " + loop.group().trim());
        }
    }

    private static Map<String, String> bodies(String text) {
        Map<String, String> bodies = new HashMap<>();
        Matcher m = Pattern.compile("(?ms)^    (?:public|private) (?:static )?\\w+ (\\w+)\\([^)]*\\) \\{\n(.*?)^    \\}").matcher(text);
        while (m.find()) {
            rule(1, bodies.put(m.group(1), m.group(2)) == null, "two methods " + m.group(1));
            rule(10, m.group(2).lines().count() <= 60, m.group(1) + " is long");
        }
        return bodies;
    }

    private static Set<String> calledIn(String body, Set<String> names) {
        Set<String> called = new TreeSet<>();
        Matcher m = Pattern.compile("\\b(\\w+)\\(").matcher(body);
        while (m.find()) {
            if (names.contains(m.group(1))) {
                called.add(m.group(1));
            }
        }
        return called;
    }

    private static void callInsideCall(String name, String body, Set<String> names) {
        Matcher m = Pattern.compile("\\b(\\w+)\\(").matcher(body);
        while (m.find()) {
            if (!names.contains(m.group(1))) {
                continue;
            }
            int open = 1;
            int end = m.end();
            while (open > 0) {
                open += body.charAt(end) == '(' ? 1 : body.charAt(end) == ')' ? -1 : 0;
                end++;
            }
            rule(10, calledIn(body.substring(m.end(), end), names).isEmpty(), "a call inside a call's arguments in " + name);
        }
    }

    /** The longest chain of calls that begins with the method; far more than six if it comes back to itself. */
    private static int deep(String name, Map<String, Set<String>> calls, int above) {
        int most = 1;
        if (above > 50) {
            return most;
        }
        for (String called : calls.get(name)) {
            most = Math.max(most, 1 + deep(called, calls, above + 1));
        }
        return most;
    }

    private static void callsOfMethods(String text) {
        Map<String, String> bodies = bodies(text);
        rule(1, bodies.size() == ContractEngine.class.getDeclaredMethods().length, "this test found " + bodies.size() + " methods");
        Map<String, Set<String>> calls = new HashMap<>();
        for (String name : bodies.keySet()) {
            calls.put(name, calledIn(bodies.get(name), bodies.keySet()));
            callInsideCall(name, bodies.get(name), bodies.keySet());
        }
        for (String name : bodies.keySet()) {
            int deep = deep(name, calls, 0);
            rule(8, deep < 50, name + " may come back to itself");
            rule(10, deep <= 6, name + " goes " + deep + " deep");
        }
    }

    public static void main(String[] args) throws IOException {
        String text = withoutComments(Files.readString(SOURCE));
        methods();
        fields();
        words(text);
        callsOfMethods(text);
        System.out.println(wrong == 0 ? "all rules that are looked at are kept" : wrong + " breaks of the rules");
        if (wrong != 0) {
            System.exit(1);
        }
    }
}
