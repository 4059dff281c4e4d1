import java.io.IOException;
import java.net.URL;
import java.net.URLClassLoader;
import java.nio.file.Files;
import java.nio.file.Path;
import java.util.ArrayList;
import java.util.List;
import java.util.regex.Matcher;
import java.util.regex.Pattern;
import java.util.stream.Stream;
import javax.tools.ToolProvider;

/** What README.md says is so: its program answers as stands behind its calls, and its table names all tests. */
public final class ReadmeTest {
    private static final Pattern CALL = Pattern.compile("( *)(x\\.\\w+\\(.*\\)); *// (NONE|true|false|-?\\d+)(:.*)?");
    private static final Pattern TEST_NAME = Pattern.compile("\\b\\w+Test\\b");

    public static void main(String[] args) throws IOException, ReflectiveOperationException {
        String readme = Files.readString(Path.of("README.md"));
        runExample(readme);
        compareTable(readme);
        Check.end();
    }

    private static void runExample(String readme) throws IOException, ReflectiveOperationException {
        Path out = Files.createTempDirectory("readme");
        Path source = out.resolve("Example.java");
        Files.writeString(source, String.join("\n", asking(codeOf(readme))));
        int compiled = ToolProvider.getSystemJavaCompiler().run(null, null, null, "-nowarn", "-cp",
                System.getProperty("java.class.path"), "-d", out.toString(), source.toString());
        Check.due("javac of the program", compiled, 0);
        if (compiled == 0) {
            ClassLoader tests = ReadmeTest.class.getClassLoader();
            try (URLClassLoader loader = new URLClassLoader(new URL[] {out.toUri().toURL()}, tests)) {
                loader.loadClass("Example").getMethod("main", String[].class).invoke(null, (Object) new String[0]);
            }
        }
        for (Path made : List.of(source, out.resolve("Example.class"), out)) {
            Files.deleteIfExists(made);
        }
    }

    private static List<String> codeOf(String readme) {
        Matcher block = Pattern.compile("(?s)```java\n(.*?)```").matcher(readme);
        List<String> lines = new ArrayList<>();
        int blocks = 0;
        while (block.find()) {
            blocks++;
            lines.addAll(List.of(block.group(1).split("\n")));
        }
        Check.due("programs in README.md", blocks, 1);
        return lines;
    }

    /** The program with each call that has an answer behind it as a question for that answer. */
    private static List<String> asking(List<String> lines) {
        List<String> asking = new ArrayList<>();
        int asked = 0;
        for (String line : lines) {
            Matcher call = CALL.matcher(line);
            if (call.matches()) {
                asked++;
                String answer = call.group(3).replace("NONE", "IvyHouse.NONE");
                asking.add("ReadmeTest.due(\"" + call.group(2) + "\", " + call.group(2) + ", " + answer + ");");
            } else {
                Check.due("an answer is told in a way that can be asked: " + line, line.matches(" *x\\..*//.*"), false);
                asking.add(line);
            }
        }
        Check.due("the program has calls with answers", asked > 0, true);
        return asking;
    }

    public static void due(String call, long got, long want) {
        Check.due("README.md: " + call, got, want);
    }

    public static void due(String call, boolean got, boolean want) {
        Check.due("README.md: " + call, got, want);
    }

    private static void compareTable(String readme) throws IOException {
        List<String> there = new ArrayList<>();
        try (Stream<Path> files = Files.list(Path.of("src/test/java"))) {
            files.map(f -> f.getFileName().toString().replace(".java", "")).filter(f -> f.endsWith("Test")).forEach(there::add);
        }
        List<String> named = new ArrayList<>();
        for (String line : readme.split("\n")) {
            Matcher name = TEST_NAME.matcher(line.startsWith("|") ? line.split("\\|")[1] : "");
            while (name.find()) {
                named.add(name.group());
            }
        }
        there.sort(null);
        named.sort(null);
        Check.same("the tests in README.md's table", named, there);
    }
}
