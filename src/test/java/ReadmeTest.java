import java.io.File;
import java.lang.reflect.Method;
import java.lang.reflect.Modifier;
import java.nio.file.Files;
import java.nio.file.Path;
import java.util.ArrayList;
import java.util.List;
import java.util.regex.Matcher;
import java.util.regex.Pattern;

/** README.md (its path is the third argument) says what is so: the calls of its example are made, its tables are whole. */
public final class ReadmeTest {
    private static final Due due = new Due("ReadmeTest");
    private static final Pattern CALL = Pattern.compile("x\\.(\\w+)\\((.*)\\); *// (-?\\d+)(?::.*)?");
    private static final String[] FINDINGS = {"BEYOND", "FULL", "KIND", "NONE", "STATE", "MISSING", "SIZE"};

    public static void main(String[] args) throws Exception {
        String readme = Files.readString(Path.of(args[2]));
        example(readme);
        tables(readme);
        tests(readme);
        due.end();
    }

    private static void example(String readme) throws Exception {
        int start = readme.indexOf("```java\n") + 8;
        MountainFarms x = new MountainFarms();
        int calls = 0;
        for (String line : readme.substring(start, readme.indexOf("```", start)).split("\n")) {
            if (line.startsWith("//") || line.equals("MountainFarms x = new MountainFarms();")) {
                continue;
            }
            Matcher m = CALL.matcher(line);
            boolean isCall = m.matches();
            due.that("a call and its answer: " + line, isCall);
            if (isCall) {
                due.is(line, Calls.call(x, m.group(1), arguments(m.group(2))), Long.parseLong(m.group(3)));
                calls++;
            }
        }
        due.that("there are calls", calls > 20);
    }

    private static long[] arguments(String text) {
        List<Long> all = new ArrayList<>();
        for (String argument : text.isEmpty() ? new String[0] : text.split(", ")) {
            all.add(argument.equals("true") ? Long.valueOf(1) : argument.equals("false") ? Long.valueOf(0)
                : Long.decode(argument));
        }
        return all.stream().mapToLong(Long::longValue).toArray();
    }

    private static void tables(String readme) {
        String table = readme.substring(readme.indexOf("| calls |"), readme.indexOf("## How to run"));
        for (Method m : MountainFarms.class.getDeclaredMethods()) {
            if (Modifier.isPublic(m.getModifiers())) {
                due.that("a call of the table: " + m.getName(), table.contains("`" + m.getName() + "`"));
            }
        }
        for (int i = 0; i < FINDINGS.length; i++) {
            int row = readme.indexOf("| " + (-1000000001 - i) + " | " + FINDINGS[i] + ": ");
            due.that("a finding of the table: " + FINDINGS[i], row >= 0
                && readme.substring(row, readme.indexOf('\n', row)).endsWith(" | " + i + " |"));
        }
    }

    private static void tests(String readme) {
        String[] files = new File("src/test/java").list((folder, name) -> name.endsWith("Test.java"));
        due.that("tests are found", files != null && files.length > 15);
        for (String file : files == null ? new String[0] : files) {
            due.that("a test of the table: " + file, readme.contains("| `" + file.replace(".java", "") + "` |"));
        }
    }
}
