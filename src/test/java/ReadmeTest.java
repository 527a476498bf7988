import java.lang.reflect.Method;
import java.lang.reflect.Modifier;
import java.net.URL;
import java.net.URLClassLoader;
import java.nio.file.Files;
import java.nio.file.Path;
import java.util.ArrayList;
import java.util.List;
import java.util.function.Supplier;
import java.util.regex.Matcher;
import java.util.regex.Pattern;
import javax.tools.JavaCompiler;
import javax.tools.ToolProvider;

/** README.md: its example answers what stands behind each of its lines, and each call of the face is named. */
public final class ReadmeTest {
    private static final Check CHECK = new Check("ReadmeTest");
    private static final Path README = Path.of("README.md");

    /** A line of the example: maybe a variable, then a call, and what it answers, with or without more words. */
    private static final Pattern LINE =
        Pattern.compile("(?:int (\\w+) = )?(x\\.\\w+\\(.*?\\)); +// ((?:throws )?\\w+)(?:: .*)?");

    public static void main(String[] args) throws Exception {
        String page = Files.readString(README);
        for (Method method : BooleanConstraints.class.getDeclaredMethods()) {
            if (Modifier.isPublic(method.getModifiers())) {
                CHECK.isTrue("the page names " + method.getName(), page.contains("`" + method.getName() + "`"));
            }
        }
        List<String> example = example(page);
        CHECK.isTrue("the example has lines", example.size() > 10);
        run(program(example));
        CHECK.end();
    }

    /** The lines of the example that are more than a comment. */
    private static List<String> example(String page) {
        List<String> lines = new ArrayList<>();
        int start = page.indexOf("```java\n");
        int end = page.indexOf("```\n", start + 8);
        if (start >= 0 && end >= 0) {
            for (String line : page.substring(start + 8, end).split("\n")) {
                if (!line.isBlank() && !line.startsWith("//")) {
                    lines.add(line);
                }
            }
        }
        return lines;
    }

    /** The example as a class that hands each call, and what stands behind it, to this one. */
    private static String program(List<String> example) {
        CHECK.equal("the first line", example.get(0), "BooleanConstraints x = new BooleanConstraints();");
        StringBuilder text = new StringBuilder("public final class ReadmeExample implements Runnable {\n");
        text.append("public void run() {\n").append(example.get(0)).append('\n');
        for (String line : example.subList(1, example.size())) {
            Matcher parts = LINE.matcher(line);
            boolean isCall = parts.matches();
            CHECK.isTrue("a call and its answer: " + line, isCall);
            if (isCall) {
                text.append(statement(parts.group(1), parts.group(2), parts.group(3)));
            }
        }
        return text.append("}\n}\n").toString();
    }

    private static String statement(String variable, String call, String due) {
        String declared = variable == null ? "" : "int " + variable + " = " + call + ";\n";
        String asked = variable == null ? call : variable;
        return declared + "ReadmeTest.answers(\"" + call + "\", \"" + due + "\", () -> " + asked + ");\n";
    }

    private static void run(String program) throws Exception {
        JavaCompiler compiler = ToolProvider.getSystemJavaCompiler();
        Path folder = Files.createTempDirectory("readme");
        Path source = folder.resolve("ReadmeExample.java");
        Path compiled = folder.resolve("ReadmeExample.class");
        Files.writeString(source, program);
        int failed = compiler == null ? 1 : compiler.run(null, null, null, "-d", folder.toString(), "-cp",
            System.getProperty("java.class.path"), source.toString());
        CHECK.equal("the example compiles", failed, 0);
        if (failed == 0) {
            try (URLClassLoader loader = new URLClassLoader(new URL[] {folder.toUri().toURL()})) {
                Object example = loader.loadClass("ReadmeExample").getConstructor().newInstance();
                CHECK.equal("the example ends", Check.outcome(() -> ended((Runnable) example)), "it ends");
            }
            Files.delete(compiled);
        }
        Files.delete(source);
        Files.delete(folder);
    }

    private static String ended(Runnable example) {
        example.run();
        return "it ends";
    }

    /** Called by the example. */
    public static void answers(String what, String due, Supplier<Object> call) {
        CHECK.equal(what, Check.outcome(call::get), due);
    }
}
