import java.io.IOException;
import java.nio.file.Files;
import java.nio.file.Paths;
import java.util.Arrays;
import java.util.HashSet;
import java.util.Set;
import java.util.regex.Matcher;
import java.util.regex.Pattern;

// The program keeps to the part of Java that LANGUAGE.md leaves, as far as that can be seen from its text.
// It is run in the project's folder.
public final class LanguageTest {
    private static final String FILE = "src/main/java/CutMarks.java";
    private static final Set<String> NAMES = new HashSet<>(Arrays.asList("String", "StringBuilder", "Integer", "Long", "Math",
        "System", "Arrays", "ArrayList", "List", "Iterator", "Iterable", "Comparable", "Override", "IllegalStateException",
        "IllegalArgumentException", "IndexOutOfBoundsException", "ArithmeticException", "UnsupportedOperationException",
        "NoSuchElementException", "RuntimeException"));
    private static final Set<String> IMPORTS = new HashSet<>(Arrays.asList("java.util.ArrayList", "java.util.List",
        "java.util.Iterator", "java.util.Arrays", "java.util.NoSuchElementException"));
    private static final String[] RULED_OUT = {"\\bpackage\\b", "\\bprotected\\b", "\\bfinally\\b", "\\bsynchronized\\b",
        "\\bassert\\b", "\\bnative\\b", "::", "\\bstatic\\s*\\{", "\\btry\\s*\\(", "\\bgetMessage\\b",
        "\\b(Integer|Long|Math)\\.\\w+Exact\\b", "\\bboolean equals\\s*\\(", "\\bint hashCode\\s*\\(",
        "\\bString toString\\s*\\(", "\\bSystem\\.(?!arraycopy\\b)", "\\bArrays\\.(?!copyOf\\b|copyOfRange\\b|fill\\b)",
        "\\bList\\.(?!of\\b)"};
    private static final int LONG_METHOD = 65, MANY_PARAMETERS = 7, MANY_CLASSES = 13;
    private static int wrong = 0;

    private static void wrong(String what) {
        wrong++;
        System.out.println(FILE + ": " + what);
    }

    /** Where a comment or a text in the code ends that begins at that index; the index itself if none begins there. */
    private static int endOfComment(String text, int start) {
        if (text.startsWith("//", start)) {
            int end = text.indexOf('\n', start);
            return end < 0 ? text.length() : end;
        }
        if (text.startsWith("/*", start)) {
            int end = text.indexOf("*/", start + 2);
            return end < 0 ? text.length() : end + 2;
        }
        return start;
    }

    private static int endOfLiteral(String text, int start) {
        char sign = text.charAt(start);
        if (sign != '"' && sign != '\'') {
            return start;
        }
        int end = start + 1;
        while (end < text.length() && text.charAt(end) != sign) {
            if (text.charAt(end) > 127) {
                wrong("a constant text has a sign beyond 127");
            }
            end += text.charAt(end) == '\\' ? 2 : 1;
        }
        return Math.min(end + 1, text.length());
    }

    /** The code without comments, and with empty texts; its lines stay. */
    private static String bare(String text) {
        StringBuilder code = new StringBuilder();
        int i = 0;
        while (i < text.length()) {
            int comment = endOfComment(text, i);
            int literal = comment > i ? i : endOfLiteral(text, i);
            if (comment > i) {
                code.append(text.substring(i, comment).replaceAll("[^\n]", " "));
                i = comment;
            } else if (literal > i) {
                code.append("\"\"");
                i = literal;
            } else {
                code.append(text.charAt(i));
                i++;
            }
        }
        return code.toString();
    }

    private static void checkWords(String code) {
        for (String pattern : RULED_OUT) {
            Matcher found = Pattern.compile(pattern).matcher(code);
            if (found.find()) {
                wrong("has " + found.group());
            }
        }
        Matcher arrow = Pattern.compile("[^\n]*->").matcher(code);
        while (arrow.find()) {
            if (!arrow.group().matches("\\s*(case\\b.*|default\\s*)->")) {
                wrong("has a lambda: " + arrow.group().trim());
            }
        }
        Matcher field = Pattern.compile("\\bstatic\\b([^;{}(=]*)[;=]").matcher(code);
        while (field.find()) {
            if (!field.group(1).contains("final") && !field.group(1).contains("import")) {
                wrong("has a static field that is not final:" + field.group(1));
            }
        }
        Matcher thrown = Pattern.compile("\\bthrow\\b\\s*([^;]*);").matcher(code);
        while (thrown.find()) {
            if (!thrown.group(1).matches("new \\w+\\((\"\")?\\)")) {
                wrong("throws " + thrown.group(1));
            }
        }
    }

    /** Each name of a class is one of the program's own, of the library that is left, or of a generic class. */
    private static void checkNames(String code) {
        Set<String> own = new HashSet<>();
        Matcher inside = Pattern.compile("\\b(?:class|enum|interface|record)\\s+(\\w+)").matcher(code);
        while (inside.find()) {
            own.add(inside.group(1));
        }
        if (own.size() > MANY_CLASSES) {
            wrong("has " + own.size() + " classes");
        }
        Matcher imported = Pattern.compile("\\bimport\\s+([^;]*);").matcher(code);
        while (imported.find()) {
            if (!IMPORTS.contains(imported.group(1).trim())) {
                wrong("imports " + imported.group(1));
            }
        }
        Matcher name = Pattern.compile("(?<![\\w.])[A-Z]\\w*[a-z]\\w*").matcher(code);
        while (name.find()) {
            if (!own.contains(name.group()) && !NAMES.contains(name.group())) {
                wrong("names " + name.group());
            }
        }
    }

    private static int linesOf(String text) {
        return text.split("\n", -1).length;
    }

    private static int endOfBlock(String code, int open) {
        int depth = 0;
        for (int i = open; i < code.length(); i++) {
            depth += code.charAt(i) == '{' ? 1 : code.charAt(i) == '}' ? -1 : 0;
            if (depth == 0) {
                return i;
            }
        }
        return code.length();
    }

    private static void checkMethods(String code) {
        Matcher method = Pattern.compile("[\\w\\]>]\\s+(\\w+)\\(([^()]*)\\)\\s*(?:throws [\\w, ]+)?\\{").matcher(code);
        while (method.find()) {
            int lines = linesOf(code.substring(method.start(), endOfBlock(code, method.end() - 1)));
            if (lines > LONG_METHOD) {
                wrong(method.group(1) + " has " + lines + " lines");
            }
            if (method.group(2).split(",").length > MANY_PARAMETERS) {
                wrong(method.group(1) + " has many parameters");
            }
        }
    }

    public static void main(String[] args) throws IOException {
        String code = bare(new String(Files.readAllBytes(Paths.get(FILE)), "ISO-8859-1"));
        checkWords(code);
        checkNames(code);
        checkMethods(code);
        System.out.println(wrong == 0 ? "the program keeps to its language" : wrong + " things are not as due");
        if (wrong != 0) {
            System.exit(1);
        }
    }
}
