import java.io.ByteArrayOutputStream;
import java.io.IOException;
import java.io.PrintStream;
import java.net.URL;
import java.net.URLClassLoader;
import java.nio.charset.StandardCharsets;
import java.nio.file.Files;
import java.nio.file.Path;
import java.util.ArrayList;
import java.util.List;
import javax.tools.ToolProvider;

/** The example of README.md compiles and prints, line by line, the answers that stand behind its calls. */
public final class ReadmeTest extends Checks {
    private static final String CALL = "System.out.println(";

    /** The lines of the README's first block of Java. */
    private static List<String> example() throws IOException {
        List<String> lines = Files.readAllLines(Path.of("README.md"));
        int first = lines.indexOf("```java") + 1;
        List<String> rest = lines.subList(first, lines.size());
        return rest.subList(0, rest.indexOf("```"));
    }

    /** What stands behind each call that prints, up to a colon, behind which the README says more. */
    private static List<String> answers(List<String> example) {
        List<String> answers = new ArrayList<>();
        for (String line : example) {
            if (line.contains(CALL)) {
                due("the answer told of" + line, line.contains("// "), true);
                answers.add(line.substring(line.indexOf("//") + 2).split(":")[0].strip());
            }
        }
        return answers;
    }

    private static List<String> printed(List<String> example, Path folder) throws Exception {
        Path file = folder.resolve("Example.java");
        Files.write(file, example);
        int failed = ToolProvider.getSystemJavaCompiler().run(null, null, null, "-d", folder.toString(), "-classpath",
                System.getProperty("java.class.path"), file.toString());
        due("what javac ends with", failed, 0);
        PrintStream screen = System.out;
        ByteArrayOutputStream caught = new ByteArrayOutputStream();
        try (URLClassLoader loader = new URLClassLoader(new URL[] {folder.toUri().toURL()})) {
            System.setOut(new PrintStream(caught, true, StandardCharsets.UTF_8));
            loader.loadClass("Example").getMethod("main", String[].class).invoke(null, (Object) new String[0]);
        } finally {
            System.setOut(screen);
        }
        return caught.toString(StandardCharsets.UTF_8).lines().toList();
    }

    private static void deleteAll(Path folder) throws IOException {
        try (var files = Files.list(folder)) {
            for (Path file : files.toList()) {
                Files.delete(file);
            }
        }
        Files.delete(folder);
    }

    public static void main(String[] args) throws Exception {
        List<String> example = example();
        List<String> answers = answers(example);
        due("the example has many answers", answers.size() > 20, true);
        Path folder = Files.createTempDirectory("pegshore");
        try {
            List<String> printed = printed(example, folder);
            due("how many lines the example prints", printed.size(), answers.size());
            for (int i = 0; i < answers.size() && i < printed.size(); i++) {
                due("line " + i + " of the example", printed.get(i), answers.get(i));
            }
        } finally {
            deleteAll(folder);
        }
        finish("the example of README.md holds");
    }
}
