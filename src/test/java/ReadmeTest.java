import java.io.File;
import java.nio.file.Path;
import java.util.regex.Matcher;
import java.util.regex.Pattern;

/** README.md: its example answers as it says, it has each call of the document's face, and each test. */
public final class ReadmeTest {
    private static final Checks CHECKS = new Checks();
    private static final int PROMISES = 39;
    private static final int LEAST_ANSWERS = 20;
    private static final Pattern TYPED = Pattern.compile("for \\(char c : \"([^\"]*)\"\\.toCharArray\\(\\)\\) seals\\.type\\(c\\);");
    private static final Pattern CALL = Pattern.compile("seals\\.(\\w+\\([^)]*\\)); *// (-?\\d+)(:.*)?");

    public static void main(String[] args) {
        String readme = Edges.textOf(Path.of("README.md"));
        example(readme);
        calls(readme, Edges.textOf(Edges.DOCUMENT));
        tests(readme);
        CHECKS.finish();
    }

    private static void example(String readme) {
        String[] parts = readme.split("```java\n|```\n");
        CHECKS.due("README.md has an example", parts.length > 2 ? 1 : 0, 1);
        ClaySeals seals = new ClaySeals();
        int answers = 0;
        for (String row : parts[1].split("\n")) {
            Matcher typed = TYPED.matcher(row);
            Matcher call = CALL.matcher(row);
            if (typed.matches()) {
                typed.group(1).chars().forEach(seals::type);
            } else if (call.matches()) {
                answers++;
                CHECKS.due("the example: " + row, Edges.answer(seals, call.group(1)), Long.parseLong(call.group(2)));
            } else {
                boolean plain = row.isBlank() || row.startsWith("//") || row.equals("ClaySeals seals = new ClaySeals();");
                CHECKS.due("a row of the example that is understood: " + row, plain ? 1 : 0, 1);
            }
        }
        CHECKS.due("the example has answers", answers >= LEAST_ANSWERS ? 1 : 0, 1);
    }

    /** In the document a promise is told as "## Promise 6: anew", a blank row, then the call itself. */
    private static void calls(String readme, String document) {
        Matcher told = Pattern.compile("## Promise (\\d+): .*\n\n`(?:int |long )?([^`]*)`").matcher(document);
        int many = 0;
        while (told.find()) {
            many++;
            String row = "| " + told.group(1) + " | `" + told.group(2) + "` | ";
            CHECKS.due("README.md has the row " + row, readme.contains(row) ? 1 : 0, 1);
        }
        CHECKS.due("promises", many, PROMISES);
    }

    private static void tests(String readme) {
        String[] files = new File("src/test/java").list();
        CHECKS.due("there are tests", files != null && files.length > 0 ? 1 : 0, 1);
        for (String file : files) {
            if (file.endsWith("Test.java")) {
                String row = "| `" + file.replace(".java", "") + "` | ";
                CHECKS.due("README.md has the row " + row, readme.contains(row) ? 1 : 0, 1);
            }
        }
        Matcher rows = Pattern.compile("\\| `(\\w+Test)` \\|").matcher(readme);
        while (rows.find()) {
            CHECKS.due(rows.group(1) + " is there", new File("src/test/java", rows.group(1) + ".java").exists() ? 1 : 0, 1);
        }
    }
}
