import java.io.ByteArrayOutputStream;
import java.io.File;
import java.io.IOException;
import java.io.PrintStream;
import java.lang.reflect.Field;
import java.lang.reflect.Method;
import java.lang.reflect.Modifier;
import java.net.URL;
import java.net.URLClassLoader;
import java.nio.file.Files;
import java.nio.file.Path;
import java.util.regex.Matcher;
import java.util.regex.Pattern;
import javax.tools.ToolProvider;

// What README.md says of the use of the class: its example, its table of the calls and its codes.
public final class ReadmeTest extends Check {
    private static String readme;

    /** The first block of this kind: the lines between ```kind and ```. */
    private static String block(String kind) {
        Matcher found = Pattern.compile("^```" + kind + "\n(.*?)^```$", Pattern.MULTILINE | Pattern.DOTALL).matcher(readme);
        if (!found.find()) {
            report("README.md has no block of " + kind);
            return "";
        }
        return found.group(1);
    }

    private static String printed(Path directory) throws ReflectiveOperationException, IOException {
        PrintStream before = System.out;
        ByteArrayOutputStream bytes = new ByteArrayOutputStream();
        try (URLClassLoader loader = new URLClassLoader(new URL[] {directory.toUri().toURL()})) {
            System.setOut(new PrintStream(bytes, true));
            loader.loadClass("Example").getMethod("main", String[].class).invoke(null, (Object) new String[0]);
        } finally {
            System.setOut(before);
        }
        return bytes.toString().replace(System.lineSeparator(), "\n");
    }

    private static void example() throws ReflectiveOperationException, IOException {
        Path directory = Files.createTempDirectory("readme");
        File source = directory.resolve("Example.java").toFile();
        Files.writeString(source.toPath(), block("java"));
        int refused = ToolProvider.getSystemJavaCompiler().run(null, null, null, "-cp", System.getProperty("java.class.path"),
            "-d", directory.toString(), source.toString());
        if (refused != 0) {
            report("the example does not compile");
        } else {
            String got = printed(directory);
            if (!got.equals(block("text"))) {
                report("the example prints " + got.lines().toList() + ", not " + block("text").lines().toList());
            }
        }
        for (File file : directory.toFile().listFiles()) {
            file.delete();
        }
        directory.toFile().delete();
    }

    private static void mentions(String pattern) {
        if (!Pattern.compile(pattern).matcher(readme).find()) {
            report("README.md does not say " + pattern);
        }
    }

    private static void names() throws ReflectiveOperationException {
        for (Method method : TaskGrid.class.getDeclaredMethods()) {
            if (Modifier.isPublic(method.getModifiers())) {
                StringBuilder parameters = new StringBuilder();
                for (Class<?> type : method.getParameterTypes()) {
                    parameters.append(parameters.length() == 0 ? "" : ", ").append(type).append(" \\w+");
                }
                mentions("(?m)^\\| `" + method.getReturnType() + " " + method.getName() + "\\(" + parameters + "\\)` \\|");
            }
        }
        for (Field field : TaskGrid.class.getFields()) {
            mentions("`" + field.getName() + "` \\(" + field.getInt(null) + "\\)");
        }
    }

    public static void main(String[] args) throws ReflectiveOperationException, IOException {
        begin();
        readme = Files.readString(Path.of("README.md")).replace("\r\n", "\n");
        example();
        names();
        end();
    }
}
