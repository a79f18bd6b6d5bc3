import java.io.ByteArrayOutputStream;
import java.io.IOException;
import java.io.PrintStream;
import java.lang.reflect.Method;
import java.lang.reflect.Modifier;
import java.net.URL;
import java.net.URLClassLoader;
import java.nio.file.Files;
import java.nio.file.Path;
import java.util.List;
import java.util.regex.Matcher;
import java.util.regex.Pattern;
import javax.tools.JavaCompiler;
import javax.tools.ToolProvider;

/** README.md: its program compiles and prints what it says, and no call or test is left out. */
public final class ReadmeTest {
    private static final Checks CHECKS = new Checks();

    public static void main(String[] args) throws Exception {
        String readme = Files.readString(Path.of("README.md"));
        program(block(readme, "java"), block(readme, "text"));
        for (Method method : PaperStars.class.getDeclaredMethods()) {
            if (Modifier.isPublic(method.getModifiers())) {
                named(readme, "`" + method.getName() + "(");
            }
        }
        try (var files = Files.list(Path.of("src/test/java"))) {
            files.map(file -> file.getFileName().toString()).filter(f -> f.endsWith("Test.java"))
                    .forEach(f -> named(readme, "| " + f.replace(".java", "") + " |"));
        }
        CHECKS.end();
    }

    private static void named(String readme, String words) {
        CHECKS.due("README.md has " + words, readme.contains(words), true);
    }

    private static String block(String readme, String language) {
        Matcher found = Pattern.compile("(?s)```" + language + "\n(.*?)```").matcher(readme);
        boolean isThere = found.find();
        CHECKS.due("README.md has a block of " + language, isThere, true);
        return isThere ? found.group(1) : "";
    }

    private static void program(String source, String due) throws Exception {
        Path folder = Files.createTempDirectory("readme");
        Path file = folder.resolve("Star.java");
        Files.writeString(file, source);
        JavaCompiler compiler = ToolProvider.getSystemJavaCompiler();
        int exit = compiler.run(null, null, null, "-cp", System.getProperty("java.class.path"),
                "-d", folder.toString(), file.toString());
        CHECKS.due("the program of README.md compiles", exit, 0);
        if (exit == 0) {
            String printed = printedBy(folder);
            CHECKS.due("the program of README.md printed\n" + printed, printed.equals(due), true);
        }
        for (String name : List.of("Star.class", "Star.java")) {
            Files.deleteIfExists(folder.resolve(name));
        }
        Files.deleteIfExists(folder);
    }

    private static String printedBy(Path folder) throws IOException, ReflectiveOperationException {
        PrintStream before = System.out;
        ByteArrayOutputStream bytes = new ByteArrayOutputStream();
        try (URLClassLoader loader = new URLClassLoader(new URL[] {folder.toUri().toURL()})) {
            System.setOut(new PrintStream(bytes, true));
            Method main = loader.loadClass("Star").getMethod("main", String[].class);
            main.invoke(null, (Object) new String[0]);
        } finally {
            System.setOut(before);
        }
        return bytes.toString().replace("\r\n", "\n");
    }
}
