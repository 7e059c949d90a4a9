import java.io.File;
import java.io.IOException;
import java.net.URL;
import java.net.URLClassLoader;
import java.nio.file.Files;
import java.nio.file.Path;
import java.util.regex.Matcher;
import java.util.regex.Pattern;
import javax.tools.ToolProvider;

/** README.md tells every public member, and its examples answer what it says they answer. */
public final class ReadmeTest {
    private static final Check CHECK = new Check();
    private static final Path README = Path.of("README.md");
    private static final Pattern EXAMPLE = Pattern.compile("(?s)```java\\n(.*?)```");
    private static final Pattern ANSWERED = Pattern.compile("(?m)^(\\w+\\.\\w+\\(.*\\)); +// (\\S+)$");

    private ReadmeTest() {}

    public static void main(String[] args) throws Exception {
        String readme = Files.readString(README);
        members(readme);
        needs(readme);
        examples(readme);
        CHECK.finish();
    }

    private static void members(String readme) throws IOException {
        Document document = new Document();
        CHECK.due("constants in the document", document.constants().size(), 12);
        CHECK.due("signatures in the document", document.signatures().size(), 16);
        for (String constant : document.constants()) {
            CHECK.due("README.md tells " + constant, readme.contains("`" + constant + "`"), true);
        }
        for (String signature : document.signatures()) {
            String call = signature.replaceAll("\\(.*", "(").replaceAll(".* ", "");
            String told = "### `" + signature + "`\n\n> `" + call;
            CHECK.due("README.md tells " + signature + " in the document's words", readme.contains(told), true);
        }
    }

    private static void needs(String readme) {
        CHECK.due("README.md tells the version", readme.contains("Java 17"), true);
        CHECK.due("README.md tells how to run the tests", readme.contains("## How to run its tests"), true);
        CHECK.due("README.md names .ci/run", readme.contains("\n.ci/run\n"), true);
    }

    /** The examples are one piece of code, compiled as a method that reports each wrong answer. */
    private static void examples(String readme) throws Exception {
        StringBuilder body = new StringBuilder();
        Matcher example = EXAMPLE.matcher(readme);
        while (example.find()) {
            body.append(example.group(1));
        }
        int answered = (int) ANSWERED.matcher(body).results().count();
        CHECK.due("answers in the examples", answered > 15, true);
        CHECK.due("answers that are read", answered, body.toString().split("//", -1).length - 1);
        String checked = ANSWERED.matcher(body).replaceAll("due(\"$1\", $1, $2);");
        Object wrong = run("public final class ReadmeExample {\n"
                + "static String wrong = \"\";\n"
                + "static void due(String call, Object got, Object want) {\n"
                + "if (!got.equals(want)) wrong += call + \" answered \" + got + \", README.md says \" + want + \"; \";\n"
                + "}\n"
                + "public static String run() {\n" + checked + "return wrong;\n}\n}\n");
        CHECK.due("the examples", wrong.toString(), "");
    }

    private static Object run(String source) throws Exception {
        Path place = Files.createTempDirectory("readme");
        Path file = place.resolve("ReadmeExample.java");
        Path compiled = place.resolve("ReadmeExample.class");
        try {
            Files.writeString(file, source);
            int code = ToolProvider.getSystemJavaCompiler().run(null, null, null, "-d", place.toString(),
                    "-cp", System.getProperty("java.class.path"), file.toString());
            if (code != 0) {
                return "do not compile";
            }
            URL[] places = {place.toUri().toURL()};
            try (URLClassLoader loader = new URLClassLoader(places)) {
                return loader.loadClass("ReadmeExample").getMethod("run").invoke(null);
            }
        } finally {
            for (File left : new File[] {file.toFile(), compiled.toFile(), place.toFile()}) {
                left.delete();
            }
        }
    }
}
