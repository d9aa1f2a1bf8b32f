import java.io.File;
import java.io.IOException;
import java.lang.reflect.Method;
import java.nio.file.Files;
import java.nio.file.Path;
import java.util.ArrayList;
import java.util.HashMap;
import java.util.List;
import java.util.Map;
import java.util.regex.Matcher;
import java.util.regex.Pattern;

/** README.md: its examples answer as it says, its table has each call of the document and each of its refusals. */
public final class ReadmeTest {
    private static final Checks CHECKS = new Checks("ReadmeTest");
    private static final Path README = Path.of("README.md"), DOCUMENT = Path.of("../shared/DOC.md");
    private static final Pattern EXAMPLE = Pattern.compile("x\\.(\\w+)\\(([^)]*)\\); +// (-?\\d+)(:.*)?");
    private static final Pattern FACE = Pattern.compile("public (?:int|long) (\\w+)\\(([^)]*)\\);");
    private static final Pattern TABLE = Pattern.compile("\\| `(\\w+)\\(([^)]*)\\)` \\|[^|]+\\|([^|]*)\\|");

    public static void main(String[] args) throws Exception {
        examples(block(Files.readString(README)));
        table(Files.readAllLines(README), Files.readString(DOCUMENT));
        tests(Files.readString(README));
        CHECKS.end();
    }

    private static String block(String text) {
        int begin = text.indexOf("```java");
        return text.substring(begin, text.indexOf("```", begin + 3));
    }

    /** All rows of the example, on one object, in their order. */
    private static void examples(String example) throws Exception {
        Map<String, Method> methods = new HashMap<>();
        for (Method method : RollingThings.class.getDeclaredMethods()) {
            methods.put(method.getName(), method);
        }
        RollingThings x = new RollingThings();
        int asked = 0;
        for (String line : example.split("\n")) {
            if (!line.startsWith("x.")) {
                continue;
            }
            Matcher row = EXAMPLE.matcher(line);
            CHECKS.holds("an example with its answer: " + line, row.matches());
            Method method = row.matches() ? methods.get(row.group(1)) : null;
            CHECKS.holds("there is such a call: " + line, method != null);
            if (method != null) {
                Number told = (Number) method.invoke(x, numbers(method, row.group(2)));
                CHECKS.due(line, told.longValue(), Long.parseLong(row.group(3)));
                asked++;
            }
        }
        CHECKS.holds("there are examples", asked > 20);
    }

    private static Object[] numbers(Method method, String text) {
        List<Object> all = new ArrayList<>();
        for (String one : text.isEmpty() ? new String[0] : text.split(", ")) {
            boolean number = method.getParameterTypes()[all.size()] == int.class;
            all.add(number ? (Object) Integer.valueOf(one) : (Object) Boolean.valueOf(one));
        }
        return all.toArray();
    }

    /** Each call stands in the table with its parameters as in the document's face, in the document's order. */
    private static void table(List<String> readme, String document) {
        List<Matcher> rows = new ArrayList<>();
        for (String line : readme) {
            Matcher row = TABLE.matcher(line);
            if (row.matches()) {
                rows.add(row);
            }
        }
        int k = 0;
        Matcher face = FACE.matcher(block(document));
        while (face.find()) {
            String call = face.group(1) + "(" + face.group(2).replaceAll("(int|boolean) ", "") + ")";
            Matcher row = k < rows.size() ? rows.get(k) : null;
            String told = row == null ? "nothing" : row.group(1) + "(" + row.group(2) + ")";
            CHECKS.holds("row " + k + " of the table is " + told + ", due is " + call, told.equals(call));
            if (row != null) {
                refusals(call, row.group(3), promiseOf(face.group(1), document), document);
            }
            k++;
        }
        CHECKS.due("rows of the table", rows.size(), k);
    }

    private static String promiseOf(String name, String document) {
        Matcher promise = Pattern.compile("## Promise \\d+: " + name + "\n\n(.*)\n").matcher(document);
        return promise.find() ? promise.group(1) : "";
    }

    /** The refusals that the promise names, in its order; "As shortest()" and "As tours()" name those of another. */
    private static void refusals(String call, String told, String promise, String document) {
        Matcher as = Pattern.compile("As (\\w+)\\(\\)").matcher(promise);
        String words = as.find() ? promiseOf(as.group(1), document) : promise;
        List<String> due = new ArrayList<>();
        Matcher named = Pattern.compile("\\b(UNKNOWN|OUTSIDE|STATE|FULL)\\b").matcher(words);
        while (named.find()) {
            due.add("`" + named.group(1) + "`");
        }
        CHECKS.holds("refusals of " + call + " are" + told + ", due are " + due, told.trim().equals(String.join(", ", due)));
    }

    /** Each test of the project has its row. */
    private static void tests(String readme) throws IOException {
        File[] files = new File("src/test/java").listFiles((folder, name) -> name.matches(".*(Test|.Edges)\\.java"));
        CHECKS.holds("there are tests", files != null && files.length > 0);
        for (File file : files == null ? new File[0] : files) {
            String name = file.getName().replace(".java", "");
            CHECKS.holds("a row for " + name, readme.contains("\n| " + name + " |"));
        }
    }
}
