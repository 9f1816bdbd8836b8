import java.io.IOException;
import java.nio.file.Files;
import java.nio.file.Path;
import java.util.ArrayList;
import java.util.Arrays;
import java.util.List;
import java.util.regex.Matcher;
import java.util.regex.Pattern;
import java.util.stream.Collectors;
import java.util.stream.Stream;

/**
 * No sentence of DOC.md is forgotten: from "A PICTURE has 16 cells" to the last promise, each is one that a test of
 * edges (EdgesOf*Test) names by says(..).
 */
public final class SentencesTest {
    private static final Checks CHECKS = new Checks();
    private static final Path TESTS = Path.of("src/test/java");
    private static final String LITERAL = "\"((?:[^\"\\\\]|\\\\.)*)\"";
    private static final Pattern SAYS = Pattern.compile("\\.says\\(\\s*(" + LITERAL + "(?:\\s*\\+\\s*" + LITERAL + ")*)\\s*\\)");
    private static final int LEAST_SENTENCES = 120;

    public static void main(String[] args) throws IOException {
        String document = Edges.textOf(Edges.DOCUMENT);
        boolean[] told = new boolean[document.length()];
        int many = 0;
        for (String sentence : sentences()) {
            many++;
            int at = document.indexOf(sentence);
            CHECKS.due("the document says once: " + sentence, at >= 0 && at == document.lastIndexOf(sentence) ? 1 : 0, 1);
            if (at >= 0) {
                Arrays.fill(told, at, at + sentence.length(), true);
            }
        }
        CHECKS.due("there are sentences", many >= LEAST_SENTENCES ? 1 : 0, 1);
        leaveOutWhatNamesNothing(document, told);
        int from = document.indexOf("A PICTURE has 16 cells");
        int to = document.indexOf("## Not promised");
        CHECKS.due("the document begins and ends", from > 0 && to > from ? 1 : 0, 1);
        lookForGaps(document.substring(0, to), told, from);
        CHECKS.finish();
    }

    private static void lookForGaps(String document, boolean[] told, int from) {
        int gap = from;
        for (int at = from; at <= document.length(); at++) {
            if (at == document.length() || told[at]) {
                String rest = document.substring(gap, at);
                if (!rest.isBlank()) {
                    CHECKS.due("tests that say: " + rest.strip(), 0, 1);
                }
                gap = at + 1;
            }
        }
    }

    private static List<String> sentences() throws IOException {
        List<String> all = new ArrayList<>();
        for (Path file : edgeTests()) {
            Matcher says = SAYS.matcher(Files.readString(file));
            while (says.find()) {
                Matcher literal = Pattern.compile(LITERAL).matcher(says.group(1));
                all.add(literal.results().map(r -> r.group(1)).collect(Collectors.joining()));
            }
        }
        return all;
    }

    private static List<Path> edgeTests() throws IOException {
        try (Stream<Path> files = Files.list(TESTS)) {
            return files.filter(f -> f.getFileName().toString().matches("EdgesOf.*Test\\.java")).sorted()
                .collect(Collectors.toList());
        }
    }

    /** Headings, the marks of parts and of texts, the face (FaceTest has it), and where calls stand in the interface. */
    private static void leaveOutWhatNamesNothing(String document, boolean[] told) {
        Matcher none = Pattern.compile("(?m)```java(?s:.*?)```|^```.*$|^#.*$|^======== \\d|^Ahead of the calls.*$")
            .matcher(document);
        while (none.find()) {
            Arrays.fill(told, none.start(), none.end(), true);
        }
    }
}
