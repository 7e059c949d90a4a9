import java.io.IOException;
import java.nio.file.Files;
import java.nio.file.Path;
import java.util.ArrayList;
import java.util.List;
import java.util.regex.Matcher;
import java.util.regex.Pattern;

/** The document's text, paragraph by paragraph, without the marks of bold and of code. */
final class Document {
    private static final Path PLACE = Path.of("../shared/DOC.md");
    private static final Pattern FACE = Pattern.compile("(?s)## The public face\\s+```java(.*?)```");
    private static final Pattern MEMBER = Pattern.compile("public ([^;{]+);");

    private final List<String> paragraphs = new ArrayList<>();
    private final String face;

    Document() throws IOException {
        String raw = Files.readString(PLACE);
        for (String line : raw.split("\n")) {
            paragraphs.add(plain(line));
        }
        Matcher m = FACE.matcher(raw);
        face = m.find() ? m.group(1) : "";
    }

    private static String plain(String words) {
        return words.replaceAll("`|\\*\\*", "").replaceAll("\\s+", " ").strip();
    }

    /** Whether one paragraph says these words; ' ... ' stands for some that were left out. */
    boolean says(String words) {
        for (String paragraph : paragraphs) {
            if (inOrder(paragraph, plain(words).split(" \\.\\.\\. "))) {
                return true;
            }
        }
        return false;
    }

    private static boolean inOrder(String paragraph, String[] parts) {
        int from = 0;
        for (String part : parts) {
            int at = paragraph.indexOf(part, from);
            if (at < 0) {
                return false;
            }
            from = at + part.length();
        }
        return true;
    }

    /** The constants of the face as 'NAME = value'. */
    List<String> constants() {
        List<String> found = new ArrayList<>();
        for (String member : members()) {
            if (member.startsWith("static final int ")) {
                found.add(member.substring("static final int ".length()));
            }
        }
        return found;
    }

    /** The constructor and the methods of the face, without the word public. */
    List<String> signatures() {
        List<String> found = new ArrayList<>();
        for (String member : members()) {
            if (member.endsWith(")")) {
                found.add(member);
            }
        }
        return found;
    }

    private List<String> members() {
        List<String> found = new ArrayList<>();
        Matcher m = MEMBER.matcher(face);
        while (m.find()) {
            found.add(m.group(1));
        }
        return found;
    }
}
