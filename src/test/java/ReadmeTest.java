import java.io.ByteArrayOutputStream;
import java.io.IOException;
import java.io.PrintStream;
import java.net.URL;
import java.net.URLClassLoader;
import java.nio.file.Files;
import java.nio.file.Path;
import java.util.ArrayList;
import java.util.List;
import java.util.regex.Matcher;
import java.util.regex.Pattern;
import javax.tools.ToolProvider;

/** What README.md says holds: its example compiles and prints what it says; run from the project's folder. */
public final class ReadmeTest {
    private static final Check T = new Check();

    public static void main(String[] args) throws Exception {
        String readme = Files.readString(Path.of("README.md"));
        example(readme);
        commands(readme);
        allCallsAreNamed(readme);
        T.finish("ReadmeTest");
    }

    private static void example(String readme) throws Exception {
        Matcher block = Pattern.compile("(?s)```java\n(.*?)```").matcher(readme);
        T.due("an example", block.find() ? 1 : 0, 1);
        List<Integer> due = new ArrayList<>();
        Matcher answer = Pattern.compile("println\\(.*\\);\\s*// (-?\\d+):").matcher(block.group(1));
        while (answer.find()) due.add(Integer.parseInt(answer.group(1)));
        String[] printed = printedBy(block.group(1)).split("\\R");
        T.due("answers that the example tells", due.size(), block.group(1).split("println", -1).length - 1);
        T.due("answers that the example prints", printed.length, due.size());
        for (int i = 0; i < due.size() && i < printed.length; i++) {
            T.due("answer " + i + " of the example", Integer.parseInt(printed[i]), due.get(i));
        }
    }

    /** What the class Example of a source prints. */
    private static String printedBy(String source) throws Exception {
        Path folder = Files.createTempDirectory("readme");
        Path file = folder.resolve("Example.java");
        PrintStream before = System.out;
        ByteArrayOutputStream printed = new ByteArrayOutputStream();
        try (URLClassLoader loader = new URLClassLoader(new URL[] {folder.toUri().toURL()})) {
            Files.writeString(file, source);
            String path = System.getProperty("java.class.path");
            int left = ToolProvider.getSystemJavaCompiler().run(null, null, null, "-cp", path, "-d", folder.toString(), file.toString());
            T.due("the example is refused by javac", left, 0);
            if (left != 0) return "";
            System.setOut(new PrintStream(printed, true));
            loader.loadClass("Example").getMethod("main", String[].class).invoke(null, (Object) new String[0]);
        } finally {
            System.setOut(before);
            remove(folder);
        }
        return printed.toString();
    }

    private static void remove(Path folder) throws IOException {
        try (var files = Files.list(folder)) {
            for (Path file : files.toList()) Files.delete(file);
        }
        Files.delete(folder);
    }

    /** Commands stand on lines of their own, where .ci/run finds them: it runs each. */
    private static void commands(String readme) {
        int many = 0;
        for (String line : readme.split("\n")) {
            boolean isCommand = line.matches(".*\\b(javac|java) -.*|.*\\bjava [A-Z].*");
            if (isCommand) many++;
            if (isCommand) T.due("a line of its own: " + line, line.matches("    (javac|java) .*") ? 1 : 0, 1);
        }
        T.due("commands", many > 1 ? 1 : 0, 1);
        T.due(".ci/run is named", readme.contains("\n    .ci/run\n") ? 1 : 0, 1);
    }

    private static void allCallsAreNamed(String readme) {
        for (var call : WheelsWidths.class.getDeclaredMethods()) {
            boolean isOpen = java.lang.reflect.Modifier.isPublic(call.getModifiers());
            T.due("README names " + call.getName(), !isOpen || readme.contains("`" + call.getName() + "`") ? 1 : 0, 1);
        }
    }
}
