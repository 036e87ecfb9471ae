import java.io.IOException;
import java.nio.file.Files;
import java.nio.file.Path;
import java.util.List;
import java.util.regex.Matcher;
import java.util.regex.Pattern;

/** Those rules of LANGUAGE.md that can be read off the program's text; run from the project's folder. */
public final class SourceTest {
    private static final Path PROGRAM = Path.of("src/main/java/TightDesk.java");
    private static final List<String> RULED_OUT = List.of(
            "\\bthrow\\b", "\\btry\\b", "\\bcatch\\b", "\\bsynchronized\\b", "\\bassert\\b", "->", "::",
            "Exact\\b", "\\bpackage\\b", "\\bprotected\\b", "\\bstatic\\s*\\{", "\\bdouble\\b", "\\bfloat\\b",
            "\\bequals\\b", "\\bhashCode\\b", "\\btoString\\b", "\\bRandom\\b", "nanoTime", "currentTimeMillis");

    public static void main(String[] args) throws IOException {
        Due due = new Due("SourceTest");
        String code = withoutComments(Files.readString(PROGRAM));
        for (String pattern : RULED_OUT) {
            due.is("places with " + pattern, count(pattern, code), 0);
        }
        due.is("imports beside java.util.Arrays", count("\\bimport (?!java\\.util\\.Arrays;)", code), 0);
        due.is("classes inside that are not static", count("(?<!static final |public final )\\bclass \\w+ \\{", code), 0);
        due.is("at most twelve classes", count("\\bclass \\w+ \\{", code) <= 12, true);
        holdNothingMade(due, code);
        holdParameters(due, code);
        holdMethodLengths(due, code);
        due.end();
    }

    private static String withoutComments(String text) {
        return text.replaceAll("(?s)/\\*.*?\\*/", "").replaceAll("//[^\n]*", "");
    }

    private static int count(String pattern, String text) {
        Matcher matcher = Pattern.compile(pattern).matcher(text);
        int count = 0;
        while (matcher.find()) {
            count++;
        }
        return count;
    }

    /** All is made by the constructor, that stands ahead of the first call, and with the fields inside. */
    private static void holdNothingMade(Due due, String code) {
        String calls = code.substring(code.indexOf("public int task("));
        due.is("objects made by calls", count("\\bnew \\w+\\(", calls), 0);
        due.is("arrays made by calls", count("(?m)^(?!.* final ).*\\bnew \\w+\\[", calls), 0);
    }

    private static void holdParameters(Due due, String code) {
        Matcher heads = Pattern.compile("(\\w+)\\(([^()]*)\\) \\{").matcher(code);
        while (heads.find()) {
            due.is(heads.group(1) + ": at most seven parameters", heads.group(2).split(",").length <= 7, true);
        }
    }

    private static void holdMethodLengths(Due due, String code) {
        int begun = 0;
        String[] lines = code.split("\n");
        for (int i = 0; i < lines.length; i++) {
            if (lines[i].matches("( {4}| {8})(\\w.*)?\\w+\\([^()]*\\) \\{")) {
                begun = i;
            } else if (lines[i].matches(" {4}\\}| {8}\\}") && lines[begun].indexOf('}') < 0 && begun > 0) {
                due.is("at most sixty lines: " + lines[begun].trim(), i - begun <= 60, true);
                begun = 0;
            }
        }
    }
}
