import java.io.IOException;
import java.nio.file.Files;
import java.nio.file.Path;
import java.util.Set;
import java.util.regex.Matcher;
import java.util.regex.Pattern;

/** The text of WordJudge.java keeps to the rules of LANGUAGE.md that can be seen from it. Runs in the root folder. */
public final class LanguageTest {
    private static final Check CHECK = new Check("LanguageTest");
    private static final Set<String> LIBRARY = Set.of("Math.min", "Math.max", "Arrays.fill", "System.arraycopy");
    private static final Set<String> THROWN =
        Set.of("IllegalStateException", "IllegalArgumentException", "IndexOutOfBoundsException");
    private static final String[] LEFT_OUT = {"->", "::", "\\bpackage\\b", "\\bsynchronized\\b", "\\bassert\\b",
        "\\btry\\b", "\\bcatch\\b", "\\bfinally\\b", "\\bvolatile\\b", "\\bnative\\b", "\\bvar\\b", "\\bstatic\\s*\\{",
        "\\bprotected\\b", "\\bdouble\\b", "\\bfloat\\b", "\\bObject\\b", "\\bhashCode\\b", "\\btoString\\b",
        "\\bwhile\\s*\\(\\s*true\\b", "\\bfor\\s*\\(\\s*;"};
    private static final Pattern METHOD = Pattern.compile("^( +)(?!.*\\bnew\\b)[a-z][\\w \\[\\]]*\\(.*$");

    /** Texts are emptied and comments are gone; the lines stay. */
    private static String bare(String source) {
        return source.replaceAll("\"[^\"\\n]*\"", "\"\"").replaceAll("//[^\\n]*", "")
            .replaceAll("/\\*\\*[^*]*\\*/", "");
    }

    private static int howMany(String pattern, String text) {
        return (int) Pattern.compile(pattern).matcher(text).results().count();
    }

    private static void leftOut(String text) {
        for (String pattern : LEFT_OUT) {
            CHECK.due("what the rules leave out: " + pattern, howMany(pattern, text), 0);
        }
        CHECK.due("block comments all gone", howMany("/\\*", text), 0);
        CHECK.due("imports", howMany("\\bimport\\b", text), 1);
        CHECK.due("import of Arrays", howMany("(?m)^import java\\.util\\.Arrays;$", text), 1);
        CHECK.due("classes at most twelve", howMany("\\bclass [A-Z]", text) <= 12 ? 1 : 0, 1);
        CHECK.due("one public class", howMany("\\bpublic final class\\b", text), 1);
    }

    private static void library(String text) {
        Matcher m = Pattern.compile("\\b(Math|Arrays|System|Integer|Long|String|StringBuilder|Boolean|Character|List"
            + "|ArrayList|Objects|Thread|Runtime)\\b(\\.\\w+)?").matcher(text.replaceAll("(?m)^import.*$", ""));
        while (m.find()) {
            CHECK.due("library: " + m.group(), LIBRARY.contains(m.group()) ? 1 : 0, 1);
        }
    }

    private static void thrown(String text) {
        Matcher m = Pattern.compile("\\bthrow (new (\\w+)\\(\"\"\\);)?").matcher(text);
        while (m.find()) {
            CHECK.due("thrown: " + m.group(), m.group(2) != null && THROWN.contains(m.group(2)) ? 1 : 0, 1);
        }
        // What is inside is behind the face: nothing there throws.
        CHECK.due("thrown inside", howMany("\\bthrow\\b", text.substring(text.indexOf("private static final class"))),
            0);
    }

    /** A method ends with a brace that stands as deep as its heading. */
    private static void lengths(String text) {
        String[] lines = text.split("\n", -1);
        int methods = 0;
        for (int i = 0; i < lines.length; i++) {
            Matcher m = METHOD.matcher(lines[i]);
            boolean heads = m.matches() && (m.group(1).length() == 4 || m.group(1).length() == 8)
                && !lines[i].endsWith(";") && !lines[i].matches(" +(if|for|while|switch|return|throws)\\b.*");
            if (heads) {
                methods++;
                int end = i;
                while (end < lines.length && !lines[end].equals(m.group(1) + "}")) {
                    end++;
                }
                CHECK.due("some sixty lines at most: " + lines[i].strip(), end - i < 60 ? 1 : 0, 1);
            }
        }
        CHECK.due("methods were found", methods > 80 ? 1 : 0, 1);
    }

    public static void main(String[] args) throws IOException {
        String text = bare(Files.readString(Path.of("src/main/java/WordJudge.java")));
        leftOut(text);
        library(text);
        thrown(text);
        lengths(text);
        CHECK.end();
    }
}
