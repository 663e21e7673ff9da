import java.lang.reflect.Method;
import java.lang.reflect.Modifier;
import java.net.URL;
import java.net.URLClassLoader;
import java.nio.file.Files;
import java.nio.file.Path;
import java.util.regex.Matcher;
import java.util.regex.Pattern;
import javax.tools.ToolProvider;

/** README.md names every call, and its example answers what it says. */
public final class ReadmeTest extends Checks {
    private static final Pattern BLOCK = Pattern.compile("(?s)```java\n(.*?)```");
    /** A line that ends with a comment which begins with an answer: a number, true, false or a text. */
    private static final Pattern ANSWERED =
            Pattern.compile("(?:int (\\w+) = )?(.*);\\s*// (-?[0-9]+(?=:)|true(?=:)|false(?=:)|\"[^\"]*\").*");

    public static void main(String[] args) throws Exception {
        String readme = Files.readString(Path.of("README.md"));
        everyCallIsNamed(readme);
        examplesAnswer(readme);
        finish("ReadmeTest");
    }

    private static void everyCallIsNamed(String readme) {
        about("README.md, the table of calls");
        for (Method method : GameTeller.class.getDeclaredMethods()) {
            if (Modifier.isPublic(method.getModifiers())) {
                due(method.getName() + " has a row", readme.contains("\n| `" + method.getName() + "("), true);
            }
        }
    }

    private static void examplesAnswer(String readme) throws Exception {
        about("README.md, the example");
        Matcher blocks = BLOCK.matcher(readme);
        int examples = 0;
        while (blocks.find()) {
            examples++;
            run("ReadmeExample" + examples, blocks.group(1));
        }
        due("examples", examples, 1);
    }

    private static void run(String name, String example) throws Exception {
        StringBuilder code = new StringBuilder("public class " + name + " { public static void run() {\n");
        int answers = 0;
        for (String line : example.split("\n")) {
            Matcher answered = ANSWERED.matcher(line);
            if (answered.matches()) {
                answers++;
                code.append(checked(answered));
            } else {
                code.append(line).append('\n');
            }
        }
        due("answers in the example", answers > 10, true);
        Path folder = Files.createTempDirectory("readme");
        Path file = Files.writeString(folder.resolve(name + ".java"), code + "} }\n");
        String classes = System.getProperty("java.class.path");
        int failed = ToolProvider.getSystemJavaCompiler().run(null, null, null, "-cp", classes, file.toString());
        due("javac of the example", failed, 0);
        if (failed == 0) {
            try (URLClassLoader loader = new URLClassLoader(new URL[] {folder.toUri().toURL()})) {
                loader.loadClass(name).getMethod("run").invoke(null);
            }
        }
        Files.deleteIfExists(folder.resolve(name + ".class"));
        Files.delete(file);
        Files.delete(folder);
    }

    private static String checked(Matcher line) {
        String variable = line.group(1);
        String answer = line.group(3);
        String call = line.group(2);
        String declared = variable == null ? "" : "int " + variable + " = " + call + ";\n";
        String asked = variable == null ? call : variable;
        String quoted = call.replace("\\", "\\\\").replace("\"", "\\\"");
        return declared + "ReadmeTest.answers(\"" + quoted + "\", " + asked + ", " + answer + ");\n";
    }

    /** The example calls it. */
    public static void answers(String call, Object got, Object want) {
        due(call, String.valueOf(got), String.valueOf(want));
    }
}
