import java.io.ByteArrayOutputStream;
import java.io.IOException;
import java.io.PrintStream;
import java.net.URL;
import java.net.URLClassLoader;
import java.nio.charset.StandardCharsets;
import java.nio.file.Files;
import java.nio.file.Path;
import java.util.ArrayList;
import java.util.List;
import java.util.regex.Matcher;
import java.util.regex.Pattern;
import javax.tools.ToolProvider;

/** The program in README.md prints what README.md tells behind each of its rows. */
public final class ReadmeTest {
    public static void main(String[] args) throws IOException, ReflectiveOperationException {
        String readme = Files.readString(Path.of("README.md"), StandardCharsets.UTF_8);
        String program = firstGroup(readme, "(?s)```java\n(.*?)```");
        String name = firstGroup(program, "public final class (\\w+)");
        List<String> due = told(program);
        String[] printed = run(name, program).split("\n");
        int passed = 0;
        int failed = due.isEmpty() || printed.length != due.size() ? 1 : 0;
        for (int i = 0; i < due.size(); i++) {
            String got = i < printed.length ? printed[i] : "nothing";
            if (got.equals(due.get(i))) {
                passed++;
            } else {
                failed++;
                System.out.println("README.md's print " + (i + 1) + " is " + got + ", told is " + due.get(i));
            }
        }
        System.out.println("ReadmeTest: " + passed + " passed, " + failed + " failed");
        System.exit(failed == 0 ? 0 : 1);
    }

    private static String firstGroup(String text, String pattern) {
        Matcher m = Pattern.compile(pattern).matcher(text);
        return m.find() ? m.group(1) : "";
    }

    private static List<String> told(String program) {
        List<String> due = new ArrayList<>();
        Matcher m = Pattern.compile("println\\(.*\\); +// (\\w+):").matcher(program);
        while (m.find()) {
            due.add(m.group(1));
        }
        return due;
    }

    private static String run(String name, String program) throws IOException, ReflectiveOperationException {
        Path folder = Files.createTempDirectory("readme");
        Path source = Files.writeString(folder.resolve(name + ".java"), program);
        int code = ToolProvider.getSystemJavaCompiler().run(null, null, null,
                "-cp", System.getProperty("java.class.path"), "-d", folder.toString(), source.toString());
        if (code != 0) {
            return "README.md's program does not compile";
        }
        PrintStream out = System.out;
        ByteArrayOutputStream printed = new ByteArrayOutputStream();
        System.setOut(new PrintStream(printed, true, StandardCharsets.UTF_8));
        try (URLClassLoader loader = new URLClassLoader(new URL[] {folder.toUri().toURL()})) {
            loader.loadClass(name).getMethod("main", String[].class).invoke(null, (Object) new String[0]);
        } finally {
            System.setOut(out);
            delete(folder, name);
        }
        return printed.toString(StandardCharsets.UTF_8).replace("\r", "");
    }

    private static void delete(Path folder, String name) throws IOException {
        Files.deleteIfExists(folder.resolve(name + ".java"));
        Files.deleteIfExists(folder.resolve(name + ".class"));
        Files.deleteIfExists(folder);
    }
}
