import java.io.IOException;
import java.nio.file.Files;
import java.nio.file.Path;
import java.util.LinkedHashMap;
import java.util.Map;
import java.util.Set;
import java.util.TreeSet;
import java.util.regex.Matcher;
import java.util.regex.Pattern;

/** What of LANGUAGE.md can be seen in the text of the program, whose path is the argument. */
public final class LanguageTest {
    private static final Due DUE = new Due();

    private static final String[] BANNED = {
        "\\bthrows?\\b", "\\btry\\b", "\\bcatch\\b", "\\bfinally\\b", "\\bsynchronized\\b", "\\bassert\\b", "->", "::",
        "\\bpackage\\b", "\\bprotected\\b", "\\w+Exact\\b", "\\bequals\\s*\\(", "\\bhashCode\\b", "\\btoString\\b",
        "\\bimport (?!java\\.util\\.(Arrays|ArrayList|List);)", "\\bvolatile\\b", "\\bnative\\b", "\\bstatic\\s*\\{",
        // Every loop of the program is a for with a counter, so that its end can be seen.
        "\\bwhile\\b", "\\bdo\\b", "for \\([^;)]*;\\s*;",
        // The program has no texts, so it joins none.
        "\"",
    };

    /** Of the library the program may use static functions alone, and only these: no constant stands in rule 4. */
    private static final Pattern LISTED = Pattern.compile(
        "Arrays\\.(fill|copyOf|copyOfRange)\\(|System\\.arraycopy\\(|(Math|Integer|Long)\\.[a-z]\\w*\\(");

    private static final Pattern HEAD = Pattern.compile(
        " {4}( {4})?(?!if|for|switch)(\\w[\\w\\[\\] ]* )?(\\w+)\\(([^()]*)\\) \\{");

    public static void main(String[] args) throws IOException {
        String text = Files.readString(Path.of(args[0]));
        String code = text.replaceAll("(?s)/\\*.*?\\*/", "").replaceAll("//[^\n]*", "");
        for (String banned : BANNED) {
            Matcher matcher = Pattern.compile(banned).matcher(code);
            DUE.no("found " + banned, matcher.find());
        }
        Set<String> own = ownClasses(code);
        DUE.yes("some twelve classes at most", own.size() <= 12);
        libraryIsListed(code, own);
        Map<String, String> bodies = methods(code);
        DUE.yes("methods were found", bodies.size() > 60);
        for (String name : bodies.keySet()) {
            DUE.no(name + " makes objects", !own.contains(name) && bodies.get(name).matches("(?s).*\\bnew\\b.*"));
            DUE.yes(name + " goes eight deep at most", depth(name, bodies, 1) <= 8);
        }
        DUE.end();
    }

    private static Set<String> ownClasses(String code) {
        Set<String> own = new TreeSet<>();
        Matcher matcher = Pattern.compile("\\b(?:class|record|enum|interface) (\\w+)").matcher(code);
        while (matcher.find()) {
            own.add(matcher.group(1));
        }
        return own;
    }

    /** A name with a capital and a small letter is that of a class: one inside the program, or of rule 4. */
    private static void libraryIsListed(String code, Set<String> own) {
        String used = code.replaceAll("import [^;]*;", "");
        Matcher matcher = Pattern.compile("(?<![\\w.])[A-Z]\\w*[a-z]\\w*").matcher(used);
        while (matcher.find()) {
            boolean listed = LISTED.matcher(used).region(matcher.start(), used.length()).lookingAt();
            String seen = used.substring(matcher.start(), Math.min(matcher.end() + 20, used.length()));
            DUE.yes("rule 4 lists " + seen, own.contains(matcher.group()) || listed);
        }
    }

    /** The bodies of all methods by their names; constructors bear the names of classes. */
    private static Map<String, String> methods(String code) {
        Map<String, String> bodies = new LinkedHashMap<>();
        String name = "";
        int began = 0;
        StringBuilder body = new StringBuilder();
        String[] lines = code.split("\n");
        for (int i = 0; i < lines.length; i++) {
            Matcher head = HEAD.matcher(lines[i]);
            if (head.matches()) {
                name = head.group(3);
                began = i;
                body.setLength(0);
                DUE.yes("seven parameters at most: " + lines[i], head.group(4).split(",").length <= 7);
                DUE.no("two methods are named " + name, bodies.containsKey(name));
            } else if (!name.isEmpty() && lines[i].matches(" {4}( {4})?\\}")) {
                DUE.yes("sixty lines at most: " + name, i - began <= 60);
                bodies.put(name, body.toString());
                name = "";
            } else if (!name.isEmpty()) {
                body.append(lines[i]).append('\n');
            }
        }
        return bodies;
    }

    /** How deep calls go from a method on; what calls itself would go deeper than is looked here. */
    private static int depth(String name, Map<String, String> bodies, int so) {
        int deepest = so;
        Matcher call = Pattern.compile("(\\w+)\\(").matcher(bodies.get(name));
        while (call.find() && deepest <= 8) {
            if (bodies.containsKey(call.group(1))) {
                deepest = Math.max(deepest, depth(call.group(1), bodies, so + 1));
            }
        }
        return deepest;
    }
}
