import java.io.IOException;
import java.nio.file.Files;
import java.nio.file.Path;
import java.util.ArrayDeque;
import java.util.ArrayList;
import java.util.Arrays;
import java.util.Deque;
import java.util.HashSet;
import java.util.LinkedHashMap;
import java.util.List;
import java.util.Map;
import java.util.Set;
import java.util.regex.Matcher;
import java.util.regex.Pattern;

/** The rules of LANGUAGE.md that the source's words can show, however it is laid out. */
public final class LanguageTest {
    private static final Check CHECK = new Check();
    private static final Path SOURCE = Path.of("src/main/java/PvqBandCodec.java");
    private static final Set<String> BARRED = new HashSet<>(Arrays.asList(
            "float", "double", "String", "Object", "Math", "Integer", "Long", "Short", "Byte", "Character", "Boolean",
            "System", "Arrays", "java", "import", "package", "throw", "throws", "try", "catch", "finally", "synchronized",
            "assert", "instanceof", "null", "interface", "enum", "record", "protected", "native", "equals", "hashCode",
            "toString", "getClass", "clone", "notify", "notifyAll", "wait", "finalize", "->", "::", "\"", "@"));
    private static final Set<String> NO_CALLS = new HashSet<>(Arrays.asList(
            "if", "for", "while", "switch", "return", "else", "do", "case"));
    private static final Pattern TOKEN = Pattern.compile("'(?:\\\\.|[^'])'|[A-Za-z_]\\w*|\\d\\w*|->|::|\\S");
    private static final Pattern COMMENT = Pattern.compile("(?s)/\\*.*?\\*/|//[^\\n]*");
    private static final int SOME_SIXTY = 66;

    private final List<String> tokens = new ArrayList<>();
    private final List<Integer> lines = new ArrayList<>();
    /** The method that a token stands in, or an empty name. */
    private final List<String> owners = new ArrayList<>();
    private final List<Integer> braces = new ArrayList<>();
    private final Map<String, Set<String>> calls = new LinkedHashMap<>();
    /** The first and the last line of each method. */
    private final List<int[]> spans = new ArrayList<>();

    private LanguageTest(String source) {
        read(source);
        findMethods();
    }

    public static void main(String[] args) throws IOException {
        LanguageTest test = new LanguageTest(Files.readString(SOURCE));
        test.words();
        test.arrays();
        test.nestedCalls();
        test.lengths();
        test.depths();
        CHECK.finish();
    }

    private void read(String source) {
        Matcher comment = COMMENT.matcher(source);
        String plain = comment.replaceAll(m -> m.group().replaceAll("[^\\n]", " "));
        Matcher m = TOKEN.matcher(plain);
        int line = 1;
        int from = 0;
        while (m.find()) {
            line += (int) plain.substring(from, m.start()).chars().filter(c -> c == '\n').count();
            from = m.start();
            tokens.add(m.group());
            lines.add(line);
        }
    }

    /** A method's name stands before brackets right inside the class, and a brace follows them. */
    private void findMethods() {
        int depth = 0;
        String candidate = "";
        String owner = "";
        for (int i = 0; i < tokens.size(); i++) {
            String token = tokens.get(i);
            if (token.equals("}")) {
                depth--;
            }
            if (depth == 1) {
                if (token.equals("(") && isName(tokens.get(i - 1))) {
                    candidate = tokens.get(i - 1);
                } else if (token.equals("{")) {
                    owner = candidate;
                    calls.computeIfAbsent(owner, name -> new HashSet<>());
                    spans.add(new int[] {lines.get(i), 0});
                } else if (token.equals("}")) {
                    spans.get(spans.size() - 1)[1] = lines.get(i);
                    owner = "";
                } else if (token.equals(";")) {
                    candidate = "";
                }
            }
            owners.add(depth > 1 ? owner : "");
            braces.add(depth);
            if (depth > 1 && token.equals("(") && isCall(i)) {
                calls.get(owner).add(tokens.get(i - 1));
            }
            if (token.equals("{")) {
                depth++;
            }
        }
        CHECK.due("methods found", spans.size(), 1 + PvqBandCodec.class.getDeclaredMethods().length);
    }

    private static boolean isName(String token) {
        return token.matches("[A-Za-z_]\\w*");
    }

    private boolean isCall(int bracket) {
        String before = tokens.get(bracket - 1);
        return isName(before) && !NO_CALLS.contains(before);
    }

    private void words() {
        int classes = 0;
        for (int i = 0; i < tokens.size(); i++) {
            String token = tokens.get(i);
            CHECK.due("line " + lines.get(i) + ": the word " + token, BARRED.contains(token), false);
            classes += token.equals("class") ? 1 : 0;
            if (token.equals("static")) {
                CHECK.due("line " + lines.get(i) + ": a static initialiser", tokens.get(i + 1).equals("{"), false);
            }
        }
        CHECK.due("classes", classes, 1);
    }

    private void arrays() {
        for (int i = 0; i < tokens.size(); i++) {
            String where = "line " + lines.get(i) + ": ";
            if (tokens.get(i).equals("]")) {
                CHECK.due(where + "an array of arrays", tokens.get(i + 1).equals("["), false);
            }
            if (!tokens.get(i).equals("new")) {
                continue;
            }
            boolean field = braces.get(i) == 1;
            boolean constructor = braces.get(i) == 2 && owners.get(i).equals("PvqBandCodec");
            CHECK.due(where + "made in a field's initialiser or plainly in the constructor", field || constructor, true);
            boolean whole = tokens.get(i + 1).matches("int|long|short|byte|char|boolean");
            boolean bracket = tokens.get(i + 2).equals("[") && !tokens.get(i + 3).equals("]");
            CHECK.due(where + "an array of numbers with a length", whole && bracket, true);
        }
    }

    private void nestedCalls() {
        Deque<Boolean> open = new ArrayDeque<>();
        int callsOpen = 0;
        for (int i = 0; i < tokens.size(); i++) {
            if (tokens.get(i).equals("(")) {
                boolean call = isCall(i);
                String where = "line " + lines.get(i) + ": the call of " + tokens.get(i - 1) + " inside a call";
                CHECK.due(where, call && callsOpen > 0, false);
                open.push(call);
                callsOpen += call ? 1 : 0;
            } else if (tokens.get(i).equals(")")) {
                callsOpen -= open.pop() ? 1 : 0;
            }
        }
    }

    private void lengths() {
        for (int[] span : spans) {
            CHECK.due("some sixty lines from line " + span[0], span[1] - span[0] <= SOME_SIXTY, true);
        }
    }

    private void depths() {
        for (String name : calls.keySet()) {
            CHECK.due("six deep from " + name, depth(name, 0) <= 6, true);
        }
    }

    /** A recursion shows as a depth that passes every bound. */
    private int depth(String name, int above) {
        if (!calls.containsKey(name) || above > 20) {
            return 0;
        }
        int below = 0;
        for (String called : calls.get(name)) {
            below = Math.max(below, depth(called, above + 1));
        }
        return 1 + below;
    }
}
