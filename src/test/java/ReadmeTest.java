import java.io.IOException;
import java.lang.reflect.Method;
import java.lang.reflect.Modifier;
import java.net.URL;
import java.net.URLClassLoader;
import java.nio.file.Files;
import java.nio.file.Path;
import java.util.ArrayList;
import java.util.List;
import java.util.function.BiConsumer;
import java.util.regex.MatchResult;
import java.util.regex.Matcher;
import java.util.regex.Pattern;
import javax.tools.JavaCompiler;
import javax.tools.StandardJavaFileManager;
import javax.tools.ToolProvider;

/** README.md tells of every call, and its examples answer what stands behind them. */
public final class ReadmeTest {
    private static final Due DUE = new Due("ReadmeTest");
    private static final Path README = Path.of("README.md");
    private static final Pattern EXAMPLE = Pattern.compile("```java\n(.*?)```", Pattern.DOTALL);
    private static final Pattern ANSWERED =
        Pattern.compile("(?m)^(link\\..*);\\s+// (-?\\d+|true|false|'.'): .*$");

    public static void main(String[] args) throws Exception {
        String text = Files.readString(README);
        tellsOfEveryCall(text);
        tellsOfEveryTest(text);
        examplesAnswer(text);
        DUE.end();
    }

    private static void tellsOfEveryCall(String text) {
        for (Method method : DiodeLink.class.getDeclaredMethods()) {
            if (Modifier.isPublic(method.getModifiers())) {
                DUE.is("README.md has a row for " + method.getName(),
                    text.contains("\n| `" + method.getName() + "("), true);
            }
        }
    }

    private static void tellsOfEveryTest(String text) throws IOException {
        DUE.is("README.md tells of .ci/run", text.contains("\n    .ci/run\n"), true);
        try (var tests = Files.newDirectoryStream(Path.of("src/test/java"), "*Test.java")) {
            for (Path test : tests) {
                String name = test.getFileName().toString().replace(".java", "");
                DUE.is("README.md has a row for " + name, text.contains("\n| `" + name + "`"), true);
            }
        }
    }

    /** Each example becomes a method in which every answer that is told is looked at. */
    private static void examplesAnswer(String text) throws Exception {
        StringBuilder source = new StringBuilder("public final class Examples {\n");
        List<String> names = new ArrayList<>();
        Matcher example = EXAMPLE.matcher(text);
        while (example.find()) {
            String name = "example" + names.size();
            names.add(name);
            source.append("public static void ").append(name).append("(java.util.function.BiConsumer<String, Object[]> look) {\n")
                .append(ANSWERED.matcher(example.group(1)).replaceAll(ReadmeTest::look)).append("}\n");
        }
        source.append("}\n");
        DUE.is("examples in README.md: " + names.size() + ", some", !names.isEmpty(), true);
        Path folder = Files.createTempDirectory("readme");
        try {
            runAll(folder, source.toString(), names);
        } finally {
            for (String file : List.of("Examples.java", "Examples.class", "")) {
                Files.deleteIfExists(folder.resolve(file));
            }
        }
    }

    private static String look(MatchResult line) {
        String call = line.group(1);
        return Matcher.quoteReplacement(
            "look.accept(\"" + call + "\", new Object[] {" + call + ", " + line.group(2) + "});");
    }

    private static long number(Object answer) {
        if (answer instanceof Boolean) {
            return (Boolean) answer ? 1 : 0;
        }
        return answer instanceof Character ? (Character) answer : ((Number) answer).longValue();
    }

    private static void runAll(Path folder, String source, List<String> names) throws Exception {
        Path file = Files.writeString(folder.resolve("Examples.java"), source);
        JavaCompiler compiler = ToolProvider.getSystemJavaCompiler();
        try (StandardJavaFileManager files = compiler.getStandardFileManager(null, null, null)) {
            List<String> options = List.of("-d", folder.toString(), "-cp", System.getProperty("java.class.path"));
            boolean compiled = compiler.getTask(null, files, null, options, null, files.getJavaFileObjects(file)).call();
            DUE.is("the examples compile", compiled, true);
            if (!compiled) {
                return;
            }
        }
        BiConsumer<String, Object[]> look = (call, both) -> DUE.is(call, number(both[0]), number(both[1]));
        ClassLoader parent = ReadmeTest.class.getClassLoader();
        try (URLClassLoader loader = new URLClassLoader(new URL[] {folder.toUri().toURL()}, parent)) {
            Class<?> examples = loader.loadClass("Examples");
            for (String name : names) {
                examples.getMethod(name, BiConsumer.class).invoke(null, look);
            }
        }
    }
}
