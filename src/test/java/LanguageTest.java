import java.io.IOException;
import java.nio.file.Files;
import java.nio.file.Path;
import java.util.ArrayDeque;
import java.util.Arrays;
import java.util.Deque;
import java.util.HashSet;
import java.util.LinkedHashMap;
import java.util.Map;
import java.util.Set;
import java.util.regex.Matcher;
import java.util.regex.Pattern;

/** The rules of LANGUAGE.md that the source's text can show. */
public final class LanguageTest {
    private static final Check CHECK = new Check();
    private static final Path SOURCE = Path.of("src/main/java/PvqBandCodec.java");
    private static final Set<String> BARRED = new HashSet<>(Arrays.asList(
            "float", "double", "String", "Object", "Math", "Integer", "Long", "System", "Arrays", "import", "package",
            "throw", "throws", "try", "catch", "finally", "synchronized", "assert", "instanceof", "null", "interface",
            "enum", "record", "protected", "this", "super", "var", "equals", "hashCode", "toString", "getClass"));
    private static final Set<String> NO_CALLS = new HashSet<>(Arrays.asList(
            "if", "for", "while", "switch", "return", "else", "do"));
    private static final Pattern TOKEN = Pattern.compile("[A-Za-z_]\\w*|->|::|\\S");
    private static final Pattern METHOD = Pattern.compile(
            "(?m)^    (?:public|private) [\\w\\[\\] ]*?(\\w+)\\([^)]*\\) \\{\\n((?:.*\\n)*?)^    \\}$");
    private static final Pattern CALL = Pattern.compile("\\b([a-z]\\w*)\\(");

    private LanguageTest() {}

    public static void main(String[] args) throws IOException {
        String source = Files.readString(SOURCE)
                .replaceAll("(?s)/\\*.*?\\*/", "").replaceAll("(?m)//.*$", "");
        words(source);
        arrays(source);
        nestedCalls(source);
        depths(source);
        CHECK.finish();
    }

    private static void words(String source) {
        int classes = 0;
        Matcher m = TOKEN.matcher(source);
        while (m.find()) {
            String token = m.group();
            CHECK.due("the word " + token, BARRED.contains(token), false);
            CHECK.due("the sign " + token, token.equals("->") || token.equals("::") || token.equals("\""), false);
            classes += token.equals("class") ? 1 : 0;
        }
        CHECK.due("classes", classes, 1);
        CHECK.due("a static initialiser", source.contains("static {"), false);
    }

    /** Easiest to see when arrays are made in the fields' initialisers alone, so it asks for that. */
    private static void arrays(String source) {
        Pattern field = Pattern.compile("^    private final \\w+\\[\\] \\w+ = new \\w+\\[[A-Z0-9_]+\\];$");
        for (String line : source.split("\n")) {
            if (Pattern.compile("\\bnew\\b").matcher(line).find()) {
                CHECK.due("an array made in: " + line.trim(), field.matcher(line).matches(), true);
            }
        }
        CHECK.due("arrays of arrays", source.contains("[][]"), false);
    }

    private static void nestedCalls(String source) {
        Deque<Boolean> open = new ArrayDeque<>();
        int callsOpen = 0;
        String last = "";
        Matcher m = TOKEN.matcher(source);
        while (m.find()) {
            String token = m.group();
            if (token.equals("(")) {
                boolean call = last.matches("[A-Za-z_]\\w*") && !NO_CALLS.contains(last);
                CHECK.due("the call of " + last + " inside a call", call && callsOpen > 0, false);
                open.push(call);
                callsOpen += call ? 1 : 0;
            } else if (token.equals(")")) {
                callsOpen -= open.pop() ? 1 : 0;
            }
            last = token;
        }
    }

    private static void depths(String source) {
        Map<String, Set<String>> calls = new LinkedHashMap<>();
        Matcher m = METHOD.matcher(source);
        while (m.find()) {
            Set<String> called = new HashSet<>();
            Matcher c = CALL.matcher(m.group(2));
            while (c.find()) {
                called.add(c.group(1));
            }
            calls.put(m.group(1), called);
            CHECK.due("some sixty lines in " + m.group(1), m.group(2).split("\n").length <= 60, true);
        }
        CHECK.due("methods found", calls.size(), 1 + PvqBandCodec.class.getDeclaredMethods().length);
        for (String name : calls.keySet()) {
            CHECK.due("six deep from " + name, depth(name, calls, 0) <= 6, true);
        }
    }

    /** A recursion shows as a depth that passes every bound. */
    private static int depth(String name, Map<String, Set<String>> calls, int above) {
        if (!calls.containsKey(name) || above > 20) {
            return 0;
        }
        int below = 0;
        for (String called : calls.get(name)) {
            below = Math.max(below, depth(called, calls, above + 1));
        }
        return 1 + below;
    }
}
