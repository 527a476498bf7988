import java.io.IOException;
import java.lang.reflect.Method;
import java.lang.reflect.Modifier;
import java.nio.file.Files;
import java.nio.file.Path;
import java.util.regex.Matcher;
import java.util.regex.Pattern;

/**
 * Writes a copy of the class that counts the calls of each object. What an object answers behind its 512th call is
 * free, so a test that asks one for more is wrong itself: with the copy it ends with exit code 1 and says where.
 */
final class CountedCopy {
    private static final Pattern CLASS_HEAD = Pattern.compile("public final class BooleanConstraints \\{");
    private static final Pattern METHOD_HEAD =
        Pattern.compile("(?m)^    public (?:int|boolean|char) \\w+\\([^)]*\\)[^;{]*\\{");

    private static final String COUNTER = String.join("\n", "",
        "    private int countedCalls = 0;",
        "",
        "    private void countCall() {",
        "        countedCalls++;",
        "        if (countedCalls == 513) {",
        "            new Error(\"an object is asked for its 513th call\").printStackTrace(System.out);",
        "            Runtime.getRuntime().addShutdownHook(new Thread(() -> Runtime.getRuntime().halt(1)));",
        "        }",
        "    }",
        "");

    private CountedCopy() {
    }

    public static void main(String[] args) throws IOException {
        String source = Files.readString(Path.of(args[0]));
        Matcher methods = METHOD_HEAD.matcher(source);
        long found = methods.results().count();
        if (found != publicMethods() || !CLASS_HEAD.matcher(source).find()) {
            System.out.println("CountedCopy: found " + found + " methods to count, not " + publicMethods());
            System.exit(1);
        }
        String counting = methods.replaceAll("$0\n        countCall();");
        Files.writeString(Path.of(args[1]), CLASS_HEAD.matcher(counting).replaceFirst("$0" + COUNTER));
    }

    private static int publicMethods() {
        int count = 0;
        for (Method method : BooleanConstraints.class.getDeclaredMethods()) {
            count += Modifier.isPublic(method.getModifiers()) ? 1 : 0;
        }
        return count;
    }
}
