import java.lang.reflect.Constructor;
import java.lang.reflect.Field;
import java.lang.reflect.Method;
import java.lang.reflect.Modifier;
import java.nio.file.Files;
import java.nio.file.Path;
import java.util.Arrays;
import java.util.Set;
import java.util.TreeSet;
import java.util.regex.Matcher;
import java.util.regex.Pattern;

/** The public face of the document, and the rules of LANGUAGE.md that can be told from the class and its text. */
public final class FaceTest {
    private static final Check CHECK = new Check("FaceTest");

    private static final String[] FACE = {
        "int addRelation(int)", "int addClause(int,int)", "int addParity(int,int)", "boolean addTuple(int,int)",
        "boolean removeTuple(int,int)", "boolean contains(int,int)", "int tupleCount(int)", "int arity(int)",
        "int relationCount()", "boolean areEqual(int,int)", "int clear()", "int addComplement(int)",
        "int addIntersection(int,int)", "int addProjection(int,int)", "int addExchanged(int,int,int)",
        "int apply(int,int,int,int,int)", "boolean preserves(int,int,int)", "boolean isPolymorphism(int,int)",
        "int polymorphismCount(int)", "int polymorphism(int,int)", "boolean isIdempotent(int,int)",
        "boolean isMonotone(int,int)", "int projectedArgument(int,int)", "int close(int,int,int)",
        "int dual(int,int)", "boolean dependsOn(int,int,int)", "int compose(int,int,int)",
        "boolean relationHasKind(int,int)", "boolean hasKind(int)", "int lowestKind()", "int setVariables(int)",
        "int addConstraint(int,int,int,int,int)", "int removeLastConstraint()", "int solutionCount()",
        "int solution(int)", "boolean isForced(int,int)", "int leastSolution()", "int greatestSolution()",
        "boolean implies(int,int,int,int)", "int dimension()", "int define(int,int,int,int,int)",
        "int firstViolated(int)", "boolean isRedundant(int)", "int removeRedundant()", "int append(char)",
        "int parse()", "int errorPosition()", "int write(int)", "char outputAt(int)", "int storeFlags(int,int,int)",
        "boolean setFlag(int,int,boolean)", "int takeFlags(int,int)", "int saveSnapshot()", "int restoreSnapshot()"
    };

    /** What the text must not have, comments and all, as expressions. */
    private static final String[] FORBIDDEN = {
        "\\bcatch\\b", "\\btry\\b", "\\bfinally\\b", "\\bsynchronized\\b", "\\bassert\\b", "->", "::", "\\bpackage\\b",
        "\\binstanceof\\b", "Exact\\b", "\\bSystem\\.(?!arraycopy)", "\\bstatic \\{", "\\bvar\\b"
    };

    public static void main(String[] args) throws Exception {
        constants();
        methods();
        members(BooleanConstraints.class);
        for (Class<?> inside : BooleanConstraints.class.getDeclaredClasses()) {
            CHECK.isTrue("inside: static", Modifier.isStatic(inside.getModifiers()));
            CHECK.isFalse("inside: not public", Modifier.isPublic(inside.getModifiers()));
            members(inside);
        }
        String source = Files.readString(Path.of(args[0]));
        text(source);
        if (args.length > 1 && Files.isReadable(Path.of(args[1]))) {
            written(source, Files.readString(Path.of(args[1])));
        } else {
            System.out.println("FaceTest: there is no document to compare the face with");
        }
        CHECK.end();
    }

    private static void constants() throws Exception {
        Set<String> found = new TreeSet<>();
        for (Field field : BooleanConstraints.class.getDeclaredFields()) {
            if (!Modifier.isPrivate(field.getModifiers())) {
                found.add(Modifier.toString(field.getModifiers()) + " " + field.getType() + " " + field.getName()
                    + " = " + field.get(null));
            }
        }
        CHECK.equal("constants", found, new TreeSet<>(Arrays.asList(
            "public static final int MAX_RELATIONS = 8", "public static final int MAX_VARIABLES = 10",
            "public static final int MAX_CONSTRAINTS = 20")));
    }

    private static void methods() {
        CHECK.isTrue("public and final", BooleanConstraints.class.getModifiers() == (Modifier.PUBLIC | Modifier.FINAL));
        Constructor<?>[] constructors = BooleanConstraints.class.getDeclaredConstructors();
        CHECK.equal("constructors", constructors.length, 1);
        CHECK.isTrue("the constructor", Modifier.isPublic(constructors[0].getModifiers())
            && constructors[0].getParameterCount() == 0);
        Set<String> found = new TreeSet<>();
        Set<String> publicNames = new TreeSet<>();
        for (Method method : BooleanConstraints.class.getDeclaredMethods()) {
            if (!Modifier.isPrivate(method.getModifiers())) {
                StringBuilder parameters = new StringBuilder();
                for (Class<?> type : method.getParameterTypes()) {
                    parameters.append(parameters.length() == 0 ? "" : ",").append(type);
                }
                found.add(method.getReturnType() + " " + method.getName() + "(" + parameters + ")");
                publicNames.add(method.getName());
                CHECK.equal("modifiers of " + method.getName(), method.getModifiers(), Modifier.PUBLIC);
            }
        }
        CHECK.equal("methods", found, new TreeSet<>(Arrays.asList(FACE)));
        for (Method method : BooleanConstraints.class.getDeclaredMethods()) {
            if (Modifier.isPrivate(method.getModifiers())) {
                CHECK.isFalse(method.getName() + " bears a public name", publicNames.contains(method.getName()));
            }
        }
    }

    private static void members(Class<?> type) {
        int own = 0;
        for (Field field : type.getDeclaredFields()) {
            boolean isStatic = Modifier.isStatic(field.getModifiers());
            own += isStatic ? 0 : 1;
            CHECK.isTrue(field.getName() + " is no static state",
                !isStatic || Modifier.isFinal(field.getModifiers()));
        }
        CHECK.isTrue("fields of " + type.getName(), own <= 20);
        for (Method method : type.getDeclaredMethods()) {
            CHECK.isTrue("parameters of " + method.getName(), method.getParameterCount() <= 7);
        }
    }

    /** Each line of the document's face, and the signature of each promise, stands in the class word by word. */
    private static void written(String source, String document) {
        String words = source.replaceAll("\\s+", " ");
        int start = document.indexOf("public final class BooleanConstraints {");
        int found = 0;
        for (String line : document.substring(start, document.indexOf("```", start)).split("\n")) {
            if (line.startsWith("    ")) {
                String due = line.contains("(") ? line.strip().replaceFirst(";$", " {") : line.strip();
                CHECK.isTrue("the class has " + due, words.contains(" " + due + " "));
                found++;
            }
        }
        CHECK.equal("lines of the face", found, FACE.length + 4);
        Matcher signatures = Pattern.compile("(?m)^## Promise \\d+: .*\n\n`(.*)`$").matcher(document);
        int promises = 0;
        while (signatures.find()) {
            String due = " public " + signatures.group(1) + " {";
            CHECK.isTrue("the class has" + due, words.contains(due));
            promises++;
        }
        CHECK.equal("promises", promises, FACE.length + 1);
    }

    private static void text(String source) {
        for (String forbidden : FORBIDDEN) {
            CHECK.isFalse("the text has " + forbidden, Pattern.compile(forbidden).matcher(source).find());
        }
        int at = 0;
        for (String line : source.split("\n")) {
            at++;
            CHECK.isTrue("imports, line " + at,
                !line.startsWith("import ") || line.equals("import java.util.NoSuchElementException;"));
            CHECK.isTrue("length of line " + at, line.length() <= 120);
        }
        CHECK.isTrue("signs", source.chars().allMatch(sign -> sign < 127));
    }
}
