import java.io.File;
import java.lang.reflect.Field;
import java.lang.reflect.Method;
import java.lang.reflect.Modifier;
import java.net.URL;
import java.net.URLClassLoader;
import java.nio.file.Files;
import java.nio.file.Path;
import java.util.ArrayList;
import java.util.List;
import java.util.regex.Matcher;
import java.util.regex.Pattern;
import javax.tools.ToolProvider;

/** README.md's example answers what it says, and the page names all that there is; run from the project's folder. */
public final class ReadmeTest {
    private static final Pattern ANSWER = Pattern.compile("(bench\\.\\w+\\(.*\\)); +// (-?\\d+)\\b.*");

    public static void main(String[] args) throws Exception {
        Due due = new Due("ReadmeTest");
        String page = Files.readString(Path.of("README.md"));
        example(due, page.substring(page.indexOf("```java\n") + 8));
        names(due, page);
        due.end();
    }

    private static void example(Due due, String rest) throws Exception {
        List<String> told = new ArrayList<>();
        List<Long> wanted = new ArrayList<>();
        StringBuilder code = new StringBuilder("public final class ReadmeExample {\n"
            + "    public static long[] answers() {\n        long[] all = new long[100];\n");
        for (String line : rest.substring(0, rest.indexOf("```")).split("\n")) {
            Matcher answer = ANSWER.matcher(line);
            if (answer.matches()) {
                code.append("all[").append(told.size()).append("] = ").append(answer.group(1)).append(";\n");
                told.add(answer.group(1));
                wanted.add(Long.parseLong(answer.group(2)));
            } else {
                code.append(line).append('\n');
            }
        }
        long[] got = run(code.append("        return all;\n    }\n}\n").toString());
        for (int i = 0; i < told.size(); i++) {
            due.is(told.get(i), got[i], wanted.get(i));
        }
        due.holds("answers were found", told.size() > 10);
    }

    private static long[] run(String code) throws Exception {
        Path folder = Files.createTempDirectory("readme");
        try {
            Path file = Files.writeString(folder.resolve("ReadmeExample.java"), code);
            ToolProvider.getSystemJavaCompiler().run(null, null, null, "-proc:none", "-cp",
                System.getProperty("java.class.path"), "-d", folder.toString(), file.toString());
            try (URLClassLoader loader = new URLClassLoader(new URL[] {folder.toUri().toURL()})) {
                return (long[]) loader.loadClass("ReadmeExample").getMethod("answers").invoke(null);
            }
        } finally {
            for (File file : folder.toFile().listFiles()) {
                file.delete();
            }
            Files.delete(folder);
        }
    }

    private static void names(Due due, String page) {
        for (Method method : CopyBench.class.getDeclaredMethods()) {
            if (Modifier.isPublic(method.getModifiers())) {
                due.holds("the call " + method.getName(), page.contains("`" + method.getName() + "`"));
            }
        }
        for (Field field : CopyBench.class.getFields()) {
            due.holds("the constant " + field.getName(), page.contains("`" + field.getName() + "`"));
        }
        for (File file : new File("src/test/java").listFiles()) {
            String name = file.getName().replace(".java", "");
            due.holds("the test " + name, page.contains("`" + name + "`"));
        }
        due.holds("at most 512 calls", page.contains("at most 512 calls"));
    }
}
