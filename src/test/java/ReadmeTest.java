import java.io.IOException;
import java.net.URL;
import java.net.URLClassLoader;
import java.nio.file.Files;
import java.nio.file.Path;
import java.util.ArrayList;
import java.util.List;
import java.util.regex.Matcher;
import java.util.regex.Pattern;
import javax.tools.ToolProvider;

/** The code of README.md, compiled as it stands there: each call must answer the number in the comment behind it. */
public final class ReadmeTest {
    private static final Pattern BLOCK = Pattern.compile("```java\n(.*?)```", Pattern.DOTALL);
    private static final Pattern ANSWERED = Pattern.compile("(int \\w+ = )?(x\\.\\w+\\(.*\\)); +// (-?\\d+)(?::.*)?");
    private static final Pattern CALL = Pattern.compile("\\bx\\.(\\w+)\\(");

    private static int wrong = 0;
    private static int answers = 0;

    /** Called by the code that is made of README.md. */
    public static int due(String call, int got, int want) {
        answers++;
        if (got != want) fault("README.md: " + call + " answered " + got + ", there stands " + want);
        return got;
    }

    private static void fault(String what) {
        wrong++;
        System.out.println(what);
    }

    private static List<String> blocks(String readme) {
        List<String> found = new ArrayList<>();
        Matcher m = BLOCK.matcher(readme);
        while (m.find()) found.add(m.group(1));
        return found;
    }

    private static String checked(String line) {
        Matcher m = ANSWERED.matcher(line);
        if (!m.matches()) {
            // Else an answer that nobody compares could stand in README.md.
            if (CALL.matcher(line).find()) fault("README.md: no answer stands behind " + line);
            return line;
        }
        String kept = m.group(1) == null ? "" : m.group(1);
        return kept + "ReadmeTest.due(\"" + m.group(2).replace("\"", "\\\"") + "\", " + m.group(2) + ", " + m.group(3) + ");";
    }

    private static String program(String helper, String use) {
        StringBuilder out = new StringBuilder("public final class ReadmeCode {\n").append(helper);
        out.append("public static void main(String[] args) {\n");
        for (String line : use.split("\n")) out.append(checked(line)).append('\n');
        return out.append("}\n}\n").toString();
    }

    private static void runProgram(String source) throws IOException, ReflectiveOperationException {
        Path folder = Files.createTempDirectory("readme");
        Path file = Files.writeString(folder.resolve("ReadmeCode.java"), source);
        Path classFile = folder.resolve("ReadmeCode.class");
        int refused = ToolProvider.getSystemJavaCompiler().run(null, null, null,
            "-cp", System.getProperty("java.class.path"), "-d", folder.toString(), file.toString());
        if (refused != 0) {
            fault("README.md: its code does not compile");
        } else {
            try (URLClassLoader loader = new URLClassLoader(new URL[] {folder.toUri().toURL()})) {
                loader.loadClass("ReadmeCode").getMethod("main", String[].class).invoke(null, (Object) new String[0]);
            }
        }
        Files.deleteIfExists(classFile);
        Files.delete(file);
        Files.delete(folder);
    }

    public static void main(String[] args) throws IOException, ReflectiveOperationException {
        List<String> blocks = blocks(Files.readString(Path.of("README.md")));
        if (blocks.size() == 2) runProgram(program(blocks.get(0), blocks.get(1)));
        else fault("README.md: a helper and a use of it are due, there are " + blocks.size() + " blocks of code");
        if (answers == 0) fault("README.md: no answer was compared");
        System.out.println("ReadmeTest: " + answers + " answers, " + wrong + " not as due");
        if (wrong != 0) System.exit(1);
    }
}
