import java.io.ByteArrayOutputStream;
import java.io.File;
import java.io.IOException;
import java.io.PrintStream;
import java.lang.reflect.Method;
import java.lang.reflect.Modifier;
import java.net.URL;
import java.net.URLClassLoader;
import java.nio.charset.StandardCharsets;
import java.nio.file.Files;
import java.nio.file.Path;
import java.util.ArrayList;
import java.util.List;
import java.util.Set;
import java.util.TreeSet;
import java.util.regex.Matcher;
import java.util.regex.Pattern;
import javax.tools.ToolProvider;

/** README.md: its example compiles and prints what it says, and it names every call and every test. */
public final class ReadmeTest {
    private static final Path README = Path.of("README.md");
    private static final Path TESTS = Path.of("src/test/java");
    private static final Path EXAMPLE = Path.of("build/readme-example");
    private static final String PRINTS = "System.out.println(";

    public static void main(String[] args) throws Exception {
        Due due = new Due();
        String readme = Files.readString(README);
        List<String> blocks = javaBlocks(readme);
        due.is("java examples in README.md", blocks.size(), 1);
        for (String example : blocks) {
            answersAsItSays(due, example);
            usesEveryCall(due, example);
        }
        namesEveryCall(due, readme);
        namesEveryTest(due, readme);
        due.end();
    }

    private static List<String> javaBlocks(String readme) {
        List<String> blocks = new ArrayList<>();
        Matcher block = Pattern.compile("^```java\\R(.*?)^```$", Pattern.MULTILINE | Pattern.DOTALL).matcher(readme);
        while (block.find()) {
            blocks.add(block.group(1));
        }
        return blocks;
    }

    private static void answersAsItSays(Due due, String example) throws Exception {
        boolean compiled = compile(example);
        due.holds("the example of README.md compiles, which", compiled);
        if (!compiled) {
            return;
        }
        List<String> said = saidToPrint(due, example);
        List<String> printed = print();
        due.is("lines that the example prints", printed.size(), said.size());
        for (int i = 0; i < Math.min(said.size(), printed.size()); i++) {
            String both = "line " + i + " of the example, said is " + said.get(i) + ", printed is " + printed.get(i);
            due.holds(both + ", which", said.get(i).equals(printed.get(i)));
        }
    }

    /** As README.md says to compile it, but for the directories. */
    private static boolean compile(String example) throws IOException {
        // A class left from an example before must not be run for this one.
        empty(EXAMPLE);
        Path file = EXAMPLE.resolve("Example.java");
        Files.writeString(file, example);
        return ToolProvider.getSystemJavaCompiler().run(null, null, null, "--release", "17",
            "-d", EXAMPLE.toString(), "src/main/java/SternDesk.java", file.toString()) == 0;
    }

    private static void empty(Path directory) throws IOException {
        Files.createDirectories(directory);
        for (File old : directory.toFile().listFiles()) {
            Files.delete(old.toPath());
        }
    }

    private static List<String> saidToPrint(Due due, String example) {
        List<String> said = new ArrayList<>();
        for (String line : example.split("\\R")) {
            if (line.contains(PRINTS)) {
                int at = line.lastIndexOf("// ");
                due.holds("an answer behind" + line + ", which", at >= 0);
                said.add(at >= 0 ? line.substring(at + 3).strip() : "");
            }
        }
        return said;
    }

    private static List<String> print() throws Exception {
        PrintStream before = System.out;
        ByteArrayOutputStream printed = new ByteArrayOutputStream();
        // No parent that knows this test's classes: the example stands on what it was compiled with.
        URL[] where = {EXAMPLE.toUri().toURL()};
        try (URLClassLoader loader = new URLClassLoader(where, ClassLoader.getPlatformClassLoader())) {
            System.setOut(new PrintStream(printed, true, StandardCharsets.UTF_8));
            Method main = loader.loadClass("Example").getMethod("main", String[].class);
            main.invoke(null, (Object) new String[0]);
        } finally {
            System.setOut(before);
        }
        return printed.toString(StandardCharsets.UTF_8).lines().toList();
    }

    private static void usesEveryCall(Due due, String example) {
        for (String call : calls()) {
            due.holds("the example uses " + call + ", which", example.contains("desk." + call + "("));
        }
    }

    private static void namesEveryCall(Due due, String readme) {
        for (String call : calls()) {
            due.holds("README.md has a row for " + call + ", which", readme.contains("| `" + call + "("));
        }
    }

    private static Set<String> calls() {
        Set<String> calls = new TreeSet<>();
        for (Method method : SternDesk.class.getDeclaredMethods()) {
            if (Modifier.isPublic(method.getModifiers())) {
                calls.add(method.getName());
            }
        }
        return calls;
    }

    private static void namesEveryTest(Due due, String readme) {
        Set<String> there = new TreeSet<>();
        for (String file : TESTS.toFile().list()) {
            if (file.endsWith("Test.java")) {
                there.add(file.substring(0, file.length() - ".java".length()));
            }
        }
        Set<String> named = new TreeSet<>();
        Matcher name = Pattern.compile("`(\\w+Test)`").matcher(readme);
        while (name.find()) {
            named.add(name.group(1));
        }
        // This word stands for all tests of the kind, and is no test itself.
        named.remove("EdgesTest");
        due.holds("README.md names " + named + ", there are " + there + ", which", named.equals(there));
    }
}
