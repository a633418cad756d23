import java.nio.file.Files;
import java.nio.file.Path;
import java.util.ArrayList;
import java.util.HashMap;
import java.util.HashSet;
import java.util.List;
import java.util.Map;
import java.util.Set;
import java.util.regex.Matcher;
import java.util.regex.Pattern;

/**
 * What of ../shared/LANGUAGE.md can be seen in the text of the program (its path is the first argument): words that
 * it leaves out, the library's classes, how long methods are and how deep their calls go.
 */
public final class LanguageTest {
    private static final Due due = new Due("LanguageTest");
    private static final Pattern METHOD = Pattern.compile(
        "^ {4,8}(?:public |private |static )*(?:void|int|long|boolean|String)(?:\\[\\])? (\\w+)\\(.*\\) \\{$");

    public static void main(String[] args) throws Exception {
        String text = Files.readString(Path.of(args[0]));
        due.that("one line's end only", text.indexOf('\r') < 0);
        due.that("signs 1 to 127", text.chars().allMatch(c -> c > 0 && c < 128));
        String code = text.replaceAll("(?s)/\\*.*?\\*/", "").replaceAll("//.*", "");
        String bare = code.replaceAll("\"[^\"]*\"", "\"\"").replaceAll("'[^']*'", "' '");
        leftOut(bare);
        library(bare);
        methods(bare);
        due.end();
    }

    private static void leftOut(String code) {
        String[] words = {"throw", "throws", "try", "catch", "finally", "synchronized", "assert", "instanceof", "package",
            "import", "protected", "volatile", "transient", "native", "strictfp", "record", "enum", "sealed", "var",
            "Object", "Exception", "Error", "Throwable", "equals", "hashCode", "toString", "getClass", "this",
            "super", "float", "double", "yield"};
        for (String word : words) {
            due.that("not there: " + word, !Pattern.compile("\\b" + word + "\\b").matcher(code).find());
        }
        for (String sign : new String[] {"->", "::", "@", "static {", "Exact(", "...", "<>"}) {
            due.that("not there: " + sign, !code.contains(sign));
        }
    }

    private static void library(String code) {
        Set<String> may = Set.of("Math.abs", "Math.min", "Math.max", "Integer.bitCount", "Long.compare",
            "System.arraycopy");
        Matcher m = Pattern.compile("\\b([A-Z]\\w*[a-z]\\w*)\\.(\\w+)").matcher(code);
        while (m.find()) {
            due.that("of the library: " + m.group(), may.contains(m.group()));
        }
        due.that("no other class of the library", !Pattern.compile("\\bjava\\w*\\.").matcher(code).find());
    }

    private static void methods(String code) {
        Map<String, String> bodies = new HashMap<>();
        String name = null;
        int start = 0;
        String[] lines = code.split("\n");
        for (int i = 0; i < lines.length; i++) {
            Matcher m = METHOD.matcher(lines[i]);
            if (m.matches()) {
                name = m.group(1);
                start = i;
            } else if (name != null && lines[i].matches(" {4}(?: {4})?\\}")
                && lines[i].indexOf('}') == indent(lines[start])) {
                due.that("some sixty lines at most: " + name, i - start < 60);
                bodies.merge(name, String.join("\n", List.of(lines).subList(start + 1, i)), (a, b) -> a + "\n" + b);
                name = null;
            }
        }
        due.that("methods are found", bodies.size() > 80);
        for (String method : bodies.keySet()) {
            int depth = depth(method, bodies, new HashSet<>());
            due.that("at most eight deep: " + method + " " + depth, depth <= 8);
        }
    }

    private static int indent(String line) {
        return line.length() - line.stripLeading().length();
    }

    /** How many calls stand open at most; methods of one name are taken as one (become calls become of the parts). */
    private static int depth(String method, Map<String, String> bodies, Set<String> open) {
        if (!open.add(method)) {
            due.that("no recursion but for become: " + method, method.equals("become"));
            return 3;
        }
        List<Integer> depths = new ArrayList<>(List.of(0));
        Matcher m = Pattern.compile("\\b(\\w+)\\(").matcher(bodies.get(method));
        while (m.find()) {
            if (bodies.containsKey(m.group(1))) {
                depths.add(depth(m.group(1), bodies, open));
            }
        }
        open.remove(method);
        return 1 + depths.stream().max(Integer::compare).orElseThrow();
    }
}
