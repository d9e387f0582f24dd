import java.io.IOException;
import java.net.URL;
import java.net.URLClassLoader;
import java.nio.file.Files;
import java.nio.file.Path;
import java.util.ArrayList;
import java.util.List;
import java.util.regex.Matcher;
import java.util.regex.Pattern;
import javax.tools.ToolProvider;

/** README.md's example, compiled and run: each answer that stands behind a call is due. */
public final class ReadmeTests {
    /** A line of the example: a number that is kept or not, a call, its answer. */
    private static final Pattern CALL = Pattern.compile("^((?:int \\w+ = )?)(sky\\.\\w+\\(.*?\\)); +// (-?\\d+)\\b.*$");
    private static final String NAME = "ReadmeExample";

    private ReadmeTests() {
    }

    /** Takes README.md and a folder for what is made of it. */
    public static void main(String[] args) throws IOException {
        List<String> example = exampleOf(Files.readString(Path.of(args[0])));
        Report.dueThat(example.size() > 1, "README.md has no example");
        Path folder = Files.createDirectories(Path.of(args[1]));
        Path source = folder.resolve(NAME + ".java");
        Files.writeString(source, programOf(example));
        int error = ToolProvider.getSystemJavaCompiler().run(null, null, null,
            "-cp", System.getProperty("java.class.path"), "-d", folder.toString(), source.toString());
        Report.dueThat(error == 0, "README.md's example does not compile");
        if (error == 0) {
            run(folder);
        }
        Report.end("ReadmeTests");
    }

    private static List<String> exampleOf(String readme) {
        List<String> lines = new ArrayList<>();
        Matcher block = Pattern.compile("(?s)```java\n(.*?)```").matcher(readme);
        while (block.find()) {
            for (String line : block.group(1).split("\n")) {
                if (!line.isBlank()) {
                    lines.add(line);
                }
            }
        }
        return lines;
    }

    private static String programOf(List<String> example) {
        StringBuilder program = new StringBuilder("public final class " + NAME + " {\n"
            + "    public static int wrong = 0;\n"
            + "    static int due(String call, int got, int want) {\n"
            + "        if (got != want) {\n"
            + "            wrong++;\n"
            + "            System.out.println(\"README.md: \" + call + \" answered \" + got);\n"
            + "        }\n"
            + "        return got;\n"
            + "    }\n"
            + "    public static int wrongOnes() {\n");
        for (String line : example) {
            Matcher call = CALL.matcher(line);
            boolean isCall = call.matches();
            Report.dueThat(isCall || line.equals("SaltClouds sky = new SaltClouds();"),
                "README.md tells no answer in: " + line);
            program.append(isCall ? call.group(1) + "due(\"" + call.group(2) + "\", " + call.group(2) + ", "
                + call.group(3) + ");" : line).append('\n');
        }
        return program.append("        return wrong;\n    }\n}\n").toString();
    }

    private static void run(Path folder) throws IOException {
        try (URLClassLoader loader = new URLClassLoader(new URL[] {folder.toUri().toURL()})) {
            int wrong = (int) loader.loadClass(NAME).getMethod("wrongOnes").invoke(null);
            Report.dueThat(wrong == 0, "README.md tells " + wrong + " wrong answers");
        } catch (ReflectiveOperationException error) {
            Report.fail("README.md's example fails: " + error);
        }
    }
}
