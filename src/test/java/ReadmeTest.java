import java.io.ByteArrayOutputStream;
import java.io.File;
import java.io.IOException;
import java.io.PrintStream;
import java.lang.reflect.Method;
import java.net.URL;
import java.net.URLClassLoader;
import java.nio.file.Files;
import java.nio.file.Path;
import java.util.ArrayList;
import java.util.List;
import java.util.regex.Matcher;
import java.util.regex.Pattern;
import javax.tools.ToolProvider;

/** README.md's program prints what stands behind its lines, and the page names every call and every test. */
final class ReadmeTest {
    private static final Pattern PRINTS = Pattern.compile("System\\.out\\.println\\((.*)\\);(?: // (-?\\d+).*)?");

    private ReadmeTest() {
    }

    public static void main(String[] args) throws Exception {
        String page = Files.readString(Path.of("README.md"));
        checkExample(example(page));
        checkNames(page);
        Due.end("ReadmeTest");
    }

    private static String example(String page) {
        int start = page.indexOf("```java\n");
        int end = page.indexOf("```\n", start + 1);
        Due.is("README.md has a program", start >= 0 && end > start, true);
        return start >= 0 && end > start ? page.substring(start + "```java\n".length(), end) : "";
    }

    private static void checkExample(String source) throws Exception {
        List<String> calls = new ArrayList<>();
        List<String> due = new ArrayList<>();
        Matcher line = PRINTS.matcher(source);
        while (line.find()) {
            calls.add(line.group(1));
            due.add("" + line.group(2));
        }
        List<String> printed = run(source).lines().toList();
        Due.is("lines that the program prints", printed.size(), due.size());
        Due.is("the program shows some calls", due.size() >= 10, true);
        for (int i = 0; i < due.size() && i < printed.size(); i++) {
            boolean right = printed.get(i).equals(due.get(i));
            Due.is(calls.get(i) + " prints " + printed.get(i) + ", README.md says " + due.get(i), right, true);
        }
    }

    private static String run(String source) throws Exception {
        Path folder = Files.createTempDirectory("readme");
        File file = folder.resolve("Example.java").toFile();
        File made = folder.resolve("Example.class").toFile();
        Files.writeString(file.toPath(), source);
        PrintStream before = System.out;
        ByteArrayOutputStream printed = new ByteArrayOutputStream();
        try (URLClassLoader loader = new URLClassLoader(new URL[] {folder.toUri().toURL()})) {
            int faults = ToolProvider.getSystemJavaCompiler().run(null, null, null, "-d", folder.toString(),
                    "-cp", System.getProperty("java.class.path"), file.toString());
            Due.is("the program compiles", faults, 0);
            Method main = loader.loadClass("Example").getMethod("main", String[].class);
            System.setOut(new PrintStream(printed, true));
            main.invoke(null, (Object) new String[0]);
        } finally {
            System.setOut(before);
            Files.deleteIfExists(made.toPath());
            Files.deleteIfExists(file.toPath());
            Files.deleteIfExists(folder);
        }
        return printed.toString();
    }

    private static void checkNames(String page) throws IOException {
        for (Method call : OwnMade.class.getDeclaredMethods()) {
            if (java.lang.reflect.Modifier.isPublic(call.getModifiers())) {
                Due.is("README.md names " + call.getName(), page.contains("`" + call.getName() + "`"), true);
            }
        }
        try (var files = Files.newDirectoryStream(Path.of("src/test/java"), "*Test.java")) {
            for (Path file : files) {
                String name = file.getFileName().toString().replace(".java", "");
                Due.is("README.md names " + name, page.contains("| `" + name + "` |"), true);
            }
        }
    }
}
