import java.io.IOException;
import java.lang.reflect.Method;
import java.lang.reflect.Modifier;
import java.nio.file.Files;
import java.nio.file.Path;
import java.util.List;
import java.util.regex.Matcher;
import java.util.regex.Pattern;

/** README.md: every call of its examples answers what it says there, and its tables tell of every method and instruction. */
public final class ReadmeTest extends Checks {
    private static final Pattern MAKING = Pattern.compile("ContractEngine engine = new ContractEngine\\((-?\\d+)\\);.*");
    private static final Pattern CALLING = Pattern.compile("engine\\.(\\w+)\\(([-\\d, ]*)\\); +// (-?\\d+|[A-Z]+)( .*)?");
    private static final Pattern INSTRUCTION = Pattern.compile("\\| (\\d+) \\| ([A-Z]+)( b)? \\| (\\d+)[^|]* \\|([^|]*)\\|([^|]*)\\|");
    private static final String[] NAMES = {"PUSH", "ARG", "CALLER", "SELF", "VALUE", "HAS", "LOAD", "STORE", "ADD", "SUB", "MUL", "LESS",
        "SAME", "DUP", "DROP", "SWAP", "JUMP", "JZERO", "CALL", "RETURN", "REVERT", "LOG", "LEFT", "SEND"};

    private static Method methodOf(String name) throws ReflectiveOperationException {
        for (Method method : ContractEngine.class.getDeclaredMethods()) {
            if (method.getName().equals(name)) {
                return method;
            }
        }
        throw new NoSuchMethodException(name);
    }

    private static long answer(ContractEngine engine, String name, String told) throws ReflectiveOperationException {
        String[] numbers = told.isEmpty() ? new String[0] : told.split(", ");
        Object[] arguments = new Object[numbers.length];
        for (int i = 0; i < numbers.length; i++) {
            arguments[i] = Integer.valueOf(numbers[i]);
        }
        return ((Number) methodOf(name).invoke(engine, arguments)).longValue();
    }

    private static long number(String told) throws ReflectiveOperationException {
        return Character.isLetter(told.charAt(0)) ? ContractEngine.class.getField(told).getInt(null) : Long.parseLong(told);
    }

    private static void examples(List<String> lines) throws ReflectiveOperationException {
        ContractEngine engine = null;
        int calls = 0;
        for (String line : lines) {
            Matcher making = MAKING.matcher(line);
            Matcher calling = CALLING.matcher(line);
            if (making.matches()) {
                engine = new ContractEngine(Integer.parseInt(making.group(1)));
            } else if (calling.matches()) {
                calls++;
                due(line, answer(engine, calling.group(1), calling.group(2)), number(calling.group(3)));
            } else {
                due("a call whose answer is not told: " + line, line.startsWith("engine.") ? 1 : 0, 0);
            }
        }
        due("there are examples", calls > 0 ? 1 : 0, 1);
    }

    private static void methodsAreTold(List<String> lines) {
        for (Method method : ContractEngine.class.getDeclaredMethods()) {
            if (Modifier.isPublic(method.getModifiers())) {
                String row = "| `" + method.getName() + "(";
                due("rows of " + method.getName(), lines.stream().filter(line -> line.startsWith(row)).count(), 1);
            }
        }
    }

    private static int many(String told) {
        return told.isBlank() ? 0 : told.split(",").length;
    }

    private static void instructionsAreTold(List<String> lines) {
        int rows = 0;
        for (String line : lines) {
            Matcher row = INSTRUCTION.matcher(line);
            if (row.matches() && rows < NAMES.length) {
                due("op of " + line, Integer.parseInt(row.group(1)), rows);
                same("name of op " + rows, row.group(2), NAMES[rows]);
                due("cost of " + line, Integer.parseInt(row.group(4)), COST[rows]);
                due("takes of " + line, many(row.group(5)), TAKES[rows]);
                due("adds of " + line, many(row.group(6)), ADDS[rows]);
                rows++;
            }
        }
        due("rows of instructions", rows, NAMES.length);
    }

    public static void main(String[] args) throws IOException, ReflectiveOperationException {
        List<String> lines = Files.readAllLines(Path.of("README.md"));
        part = "README.md";
        examples(lines);
        methodsAreTold(lines);
        instructionsAreTold(lines);
        end();
    }
}
