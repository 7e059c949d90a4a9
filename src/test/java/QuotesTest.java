import java.io.IOException;
import java.nio.file.Files;
import java.nio.file.Path;
import java.util.ArrayList;
import java.util.List;
import java.util.regex.Matcher;
import java.util.regex.Pattern;
import java.util.stream.Collectors;
import java.util.stream.Stream;

/** The words that the tests and README.md quote as the document's are the document's. */
public final class QuotesTest {
    private static final Check CHECK = new Check();
    private static final Path TESTS = Path.of("src/test/java");
    private static final Path README = Path.of("README.md");
    private static final Pattern SENTENCE = Pattern.compile("CHECK\\.sentence\\(((?:[^\"();]|\"(?:\\\\.|[^\"\\\\])*\")*)\\);");
    private static final Pattern LITERAL = Pattern.compile("\"((?:\\\\.|[^\"\\\\])*)\"");
    private static final Pattern BARRED_LINES = Pattern.compile("(?m)(?:^> .*\\n?)+");

    private QuotesTest() {}

    public static void main(String[] args) throws IOException {
        Document document = new Document();
        int quotes = 0;
        for (Path file : boundaryTests()) {
            List<String> found = sentences(file);
            int calls = Files.readString(file).split("CHECK\\.sentence\\(", -1).length - 1;
            CHECK.due(file + ": quotes that are read", found.size(), calls);
            for (String words : found) {
                CHECK.due(file + ": the document says '" + words + "'", document.says(words), true);
            }
            quotes += found.size();
        }
        CHECK.due("the tests quote more than a hundred times", quotes > 100, true);
        List<String> barred = barred();
        CHECK.due("README.md quotes every call", barred.size() >= document.signatures().size(), true);
        for (String words : barred) {
            CHECK.due("README.md: the document says '" + words + "'", document.says(words), true);
        }
        CHECK.finish();
    }

    private static List<Path> boundaryTests() throws IOException {
        try (Stream<Path> files = Files.list(TESTS)) {
            return files.filter(f -> f.toString().endsWith("BoundaryTest.java")).sorted().collect(Collectors.toList());
        }
    }

    private static List<String> sentences(Path file) throws IOException {
        List<String> found = new ArrayList<>();
        Matcher m = SENTENCE.matcher(Files.readString(file));
        while (m.find()) {
            StringBuilder words = new StringBuilder();
            Matcher literal = LITERAL.matcher(m.group(1));
            while (literal.find()) {
                words.append(literal.group(1).translateEscapes());
            }
            found.add(words.toString());
        }
        return found;
    }

    private static List<String> barred() throws IOException {
        List<String> found = new ArrayList<>();
        Matcher m = BARRED_LINES.matcher(Files.readString(README));
        while (m.find()) {
            found.add(m.group().replaceAll("(?m)^> ", ""));
        }
        return found;
    }
}
