import java.io.IOException;
import java.net.URL;
import java.net.URLClassLoader;
import java.nio.file.Files;
import java.nio.file.Path;
import java.util.ArrayList;
import java.util.List;
import java.util.regex.Matcher;
import java.util.regex.Pattern;
import javax.tools.ToolProvider;

/** README.md's example is compiled and run, and each of its calls answers, or throws, what stands beside it. */
public final class ReadmeTest {
    private static final Pattern EXAMPLE = Pattern.compile("```java\n(.*?)```", Pattern.DOTALL);
    private static final Pattern MADE = Pattern.compile("ThinExtents \\w+ = new ThinExtents\\(\\);\\s+// .+");
    private static final Pattern CALL = Pattern.compile("(\\w+\\.\\w+\\(.*\\));\\s+// (-?\\w+)(: .+)?");
    private static final String CLASS = "ReadmeExample";

    /** What the example calls, and what README.md says that it answers. */
    private static final List<String> CALLS = new ArrayList<>();
    private static final List<String> DUE = new ArrayList<>();

    private ReadmeTest() {
    }

    public static void main(String[] args) throws IOException, ReflectiveOperationException {
        Matcher example = EXAMPLE.matcher(Files.readString(Path.of("README.md")));
        Check.due("README.md has an example", true, example.find());
        String source = source(example.group(1));
        Check.due("README.md has another example", false, example.find());
        List<?> answers = answers(source);
        Check.due("calls", true, !CALLS.isEmpty());
        Check.due("answers", DUE.size(), answers.size());
        for (int i = 0; i < Math.min(DUE.size(), answers.size()); i++) {
            Check.due("README.md: " + CALLS.get(i), DUE.get(i), String.valueOf(answers.get(i)));
        }
        Check.end();
    }

    /** The example's lines as they stand, in a class that hands out what each call answers or throws. */
    private static String source(String example) {
        StringBuilder lines = new StringBuilder();
        for (String line : example.split("\n")) {
            Matcher call = CALL.matcher(line);
            if (call.matches()) {
                CALLS.add(call.group(1));
                DUE.add(call.group(2).equals("NONE") ? "-1" : call.group(2));
                lines.append("try {\nanswers.add(String.valueOf(").append(call.group(1)).append("));\n");
                lines.append("} catch (RuntimeException e) {\nanswers.add(e.getClass().getSimpleName());\n}\n");
            } else {
                Check.due("made, or a call with its answer: " + line, true, MADE.matcher(line).matches());
                lines.append(line).append('\n');
            }
        }
        return "public final class " + CLASS + " {\npublic static java.util.List<String> run() {\n"
                + "java.util.List<String> answers = new java.util.ArrayList<>();\n" + lines + "return answers;\n}\n}\n";
    }

    private static List<?> answers(String source) throws IOException, ReflectiveOperationException {
        Path folder = Files.createTempDirectory("readme");
        Path file = folder.resolve(CLASS + ".java");
        try {
            Files.writeString(file, source);
            String path = System.getProperty("java.class.path");
            int exit = ToolProvider.getSystemJavaCompiler().run(null, null, null,
                    "-proc:none", "-cp", path, "-d", folder.toString(), file.toString());
            Check.due("javac", 0, exit);
            return exit == 0 ? run(folder) : List.of();
        } finally {
            Files.deleteIfExists(file);
            Files.deleteIfExists(folder.resolve(CLASS + ".class"));
            Files.deleteIfExists(folder);
        }
    }

    private static List<?> run(Path folder) throws IOException, ReflectiveOperationException {
        try (URLClassLoader loader = new URLClassLoader(new URL[] {folder.toUri().toURL()})) {
            return (List<?>) loader.loadClass(CLASS).getMethod("run").invoke(null);
        }
    }
}
