import java.io.IOException;
import java.nio.file.Files;
import java.nio.file.Path;
import java.util.regex.Matcher;
import java.util.regex.Pattern;

/** What of LANGUAGE.md can be seen in the text of the program, whose path is the argument. */
public final class LanguageTest {
    private static final String[] BANNED = {
        "\\bthrows?\\b", "\\btry\\b", "\\bcatch\\b", "\\bfinally\\b", "\\bsynchronized\\b", "\\bassert\\b", "->", "::",
        "\\bpackage\\b", "\\bprotected\\b", "\\w+Exact\\b", "\\bequals\\s*\\(", "\\bhashCode\\b", "\\btoString\\b",
        "\\bimport (?!java\\.util\\.(Arrays|ArrayList|List);)", "\\bvolatile\\b", "\\bnative\\b", "\\bstatic\\s*\\{",
    };

    public static void main(String[] args) throws IOException {
        Due due = new Due();
        String text = Files.readString(Path.of(args[0]));
        String code = text.replaceAll("(?s)/\\*.*?\\*/", "").replaceAll("//[^\n]*", "");
        for (String banned : BANNED) {
            Matcher matcher = Pattern.compile(banned).matcher(code);
            due.no("found " + banned, matcher.find());
        }
        Matcher classes = Pattern.compile("\\b(class|record|enum|interface) \\w+").matcher(code);
        due.yes("some twelve classes at most", classes.results().count() <= 12);
        methodsAreShort(due, code);
        due.end();
    }

    private static void methodsAreShort(Due due, String code) {
        Pattern head = Pattern.compile(" {4}( {4})?(?!if|for|while|switch)\\w[\\w\\[\\] ]*\\(([^()]*)\\) \\{");
        int began = 0;
        String[] lines = code.split("\n");
        for (int i = 0; i < lines.length; i++) {
            Matcher matcher = head.matcher(lines[i]);
            if (matcher.matches()) {
                began = i;
                due.yes("seven parameters at most: " + lines[i], matcher.group(2).split(",").length <= 7);
            }
            if (lines[i].matches(" {4}( {4})?\\}")) {
                due.yes("sixty lines at most, from line " + began, i - began <= 60);
            }
        }
    }
}
