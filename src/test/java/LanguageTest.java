import java.io.IOException;
import java.nio.file.Files;
import java.nio.file.Paths;
import java.util.Arrays;
import java.util.List;
import java.util.regex.Matcher;
import java.util.regex.Pattern;

// The program names nothing beyond the part of Java that LANGUAGE.md leaves (what can be seen from its text).
// It is run in the project's folder.
public final class LanguageTest {
    private static final String FILE = "src/main/java/CutMarks.java";
    private static final List<String> LIBRARY = Arrays.asList("Integer.bitCount", "Math.floorMod");
    private static final String[] RULED_OUT = {"import", "package", "try", "catch", "finally", "throw", "throws",
        "synchronized", "assert", "volatile", "native", "record", "protected", "this::", "->", "::", "static \\{",
        "\"", "\\bhashCode", "\\btoString", "\\bObject\\b", "\\bDouble\\b", "\\bFloat\\b", "\\bSystem\\b"};
    private static int wrong = 0;

    private static void wrong(String what) {
        wrong++;
        System.out.println(FILE + ": " + what);
    }

    private static String withoutComments(String text) {
        return text.replaceAll("(?s)/\\*.*?\\*/", "").replaceAll("//[^\n]*", "");
    }

    private static void checkWords(String code) {
        for (String word : RULED_OUT) {
            String pattern = word.matches("[a-z]+") ? "\\b" + word + "\\b" : word;
            if (Pattern.compile(pattern).matcher(code).find()) {
                wrong("has " + word);
            }
        }
    }

    private static void checkLibrary(String code) {
        Matcher inside = Pattern.compile("class (\\w+)").matcher(code);
        StringBuilder own = new StringBuilder("|");
        while (inside.find()) {
            own.append(inside.group(1)).append('|');
        }
        Matcher call = Pattern.compile("\\b([A-Z]\\w*[a-z]\\w*)\\.(\\w+)").matcher(code);
        while (call.find()) {
            if (own.indexOf("|" + call.group(1) + "|") < 0 && !LIBRARY.contains(call.group())) {
                wrong("calls " + call.group());
            }
        }
    }

    private static void checkLines(String text) {
        int start = 0;
        String[] lines = text.split("\n");
        for (int i = 0; i < lines.length; i++) {
            if (!lines[i].matches("[ -~]*")) {
                wrong("line " + (i + 1) + " has a sign beyond the plain ones");
            }
            if (lines[i].matches(" +[\\w\\[\\]<> ]+\\([^()]*\\) \\{")) {
                start = i;
            }
            if (lines[i].matches(" {4}( {4})?\\}") && start > 0 && i - start > 60) {
                wrong("the method of line " + (start + 1) + " is long");
                start = 0;
            }
        }
    }

    public static void main(String[] args) throws IOException {
        String text = new String(Files.readAllBytes(Paths.get(FILE)), "ISO-8859-1");
        String code = withoutComments(text);
        checkWords(code);
        checkLibrary(code);
        checkLines(text);
        System.out.println(wrong == 0 ? "the program keeps to its language" : wrong + " things are not as due");
        if (wrong != 0) {
            System.exit(1);
        }
    }
}
