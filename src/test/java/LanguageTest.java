import java.io.IOException;
import java.nio.charset.StandardCharsets;
import java.nio.file.Files;
import java.nio.file.Path;
import java.util.regex.Matcher;
import java.util.regex.Pattern;

/** What of LANGUAGE.md can be seen in the text of the class. It is run from the project's folder. */
public final class LanguageTest {
    private static final String[] NOT_ALLOWED = {
        "\\bthrows?\\b", "\\btry\\b", "\\bcatch\\b", "\\bfinally\\b", "\\bsynchronized\\b", "\\bassert\\b",
        "\\bimport\\b", "\\bpackage\\b", "\\bvolatile\\b", "\\bnative\\b", "\\bvar\\b", "->", "::", "@",
        "\\bfloat\\b", "\\bdouble\\b", "\\bprotected\\b", "\\bequals\\b", "\\bhashCode\\b", "\\btoString\\b",
        "Exact\\b", "static\\s*\\{", "\\bObject\\b", "\\bList\\b", "\\bIterator\\b", "\"\\s*\\+", "\\+\\s*\"",
        "\\bwhile\\s*\\(true\\)", "for\\s*\\(;;", "\\bSystem\\.(?!arraycopy)",
        "\\bMath\\.(?!max|min|abs|floorDiv|floorMod)", "\\bInteger\\.(?!bitCount)",
    };
    private static final int LONGEST_METHOD = 60;
    private static final int MOST_CLASSES = 12;
    private static final int MOST_PARAMETERS = 7;

    public static void main(String[] args) throws IOException {
        Desk.about = "LANGUAGE.md";
        String source = Files.readString(Path.of("src/main/java/ZigzagTablets.java"), StandardCharsets.UTF_8);
        Desk.due("signs above 127", source.chars().filter(c -> c > 127).count(), 0);
        String text = source.replaceAll("(?s)/\\*.*?\\*/", "").replaceAll("//[^\n]*", "")
                .replaceAll("\"[^\"\n]*\"", "\"\"");
        for (String no : NOT_ALLOWED) {
            Matcher m = Pattern.compile(no).matcher(text);
            Desk.due("what is not allowed: " + no, m.find(), false);
        }
        Desk.due("classes", Pattern.compile("\\b(class|record|enum|interface) \\w").matcher(text).results().count()
                <= MOST_CLASSES, true);
        Desk.due("static fields that are not final",
                Pattern.compile("\\bstatic (?!final|class)[\\w\\[\\]]+ \\w+( =|;)").matcher(text).find(), false);
        methods(text);
        Desk.finish();
    }

    private static void methods(String text) {
        Matcher m = Pattern.compile("\n( {4}| {8})(?:\\w[\\w\\[\\]]* )*(\\w+)\\(([^)]*)\\) \\{\n(.*?)\n\\1\\}",
                Pattern.DOTALL).matcher(text);
        int seen = 0;
        while (m.find()) {
            seen++;
            Desk.due(m.group(2) + " is short", m.group(4).split("\n").length <= LONGEST_METHOD, true);
            Desk.due(m.group(2) + "'s parameters", m.group(3).split(",").length <= MOST_PARAMETERS, true);
        }
        Desk.due("methods were seen", seen > 100, true);
    }
}
