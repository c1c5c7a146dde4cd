import java.io.IOException;
import java.lang.reflect.Method;
import java.nio.file.Files;
import java.nio.file.Paths;
import java.util.regex.Matcher;
import java.util.regex.Pattern;

// The calls of README.md answer what stands behind them, and its table has the constants with their values.
// It is run in the project's folder.
public final class ReadmeTest {
    private static final String FILE = "README.md";
    private static final Pattern CALL = Pattern.compile("x\\.(\\w+)\\((.*)\\);\\s*// (-?\\w+)(:.*)?");
    private static final Pattern CONSTANT = Pattern.compile("\\| `(\\w+)` \\| (-?\\d+) \\|.*");
    private static final int CALLS = 22, CONSTANTS = 6;

    private static int wrong = 0;

    private static void due(String what, long got, long want) {
        if (got != want) {
            wrong++;
            System.out.println(FILE + ": " + what + " is " + got + ", but there stands " + want);
        }
    }

    private static long packed(String text) {
        long characters = 0;
        for (int i = 0; i < text.length(); i++) {
            characters = characters << 8 | text.charAt(i);
        }
        return characters;
    }

    private static long constant(String name) throws ReflectiveOperationException {
        return CutMarks.class.getField(name).getInt(null);
    }

    /** What stands for a number: a number, a constant of the class, or packed("..."). */
    private static long number(String word) throws ReflectiveOperationException {
        if (word.startsWith("packed(\"")) {
            return packed(word.substring(8, word.length() - 2));
        }
        if (word.matches("-?\\d+")) {
            return Long.parseLong(word);
        }
        return constant(word.replace("CutMarks.", ""));
    }

    private static long answer(CutMarks x, String name, String words) throws ReflectiveOperationException {
        String[] arguments = words.isEmpty() ? new String[0] : words.split(", ");
        for (Method method : CutMarks.class.getMethods()) {
            if (method.getName().equals(name) && method.getParameterCount() == arguments.length) {
                Object[] given = new Object[arguments.length];
                for (int i = 0; i < given.length; i++) {
                    long value = number(arguments[i]);
                    if (method.getParameterTypes()[i] == long.class) {
                        given[i] = value;
                    } else {
                        given[i] = Math.toIntExact(value);
                    }
                }
                return ((Number) method.invoke(x, given)).longValue();
            }
        }
        throw new NoSuchMethodException(name);
    }

    public static void main(String[] args) throws IOException, ReflectiveOperationException {
        CutMarks x = new CutMarks();
        int calls = 0;
        int constants = 0;
        for (String line : Files.readAllLines(Paths.get(FILE))) {
            Matcher call = CALL.matcher(line);
            if (call.matches()) {
                calls++;
                due(call.group(1) + "(" + call.group(2) + ")", answer(x, call.group(1), call.group(2)), number(call.group(3)));
            }
            Matcher row = CONSTANT.matcher(line);
            if (row.matches()) {
                constants++;
                due(row.group(1), constant(row.group(1)), Long.parseLong(row.group(2)));
            }
        }
        due("the number of calls with an answer", calls, CALLS);
        due("the number of constants", constants, CONSTANTS);
        System.out.println(wrong == 0 ? "README.md tells what is so" : wrong + " things are not as they stand there");
        if (wrong != 0) {
            System.exit(1);
        }
    }
}
