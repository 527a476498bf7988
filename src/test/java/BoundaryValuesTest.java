import java.util.ArrayList;
import java.util.List;

/**
 * All methods with all combinations of the numbers at the limits of their arguments, in objects that stand at limits
 * themselves: each answer, and what is left behind it, is the model's. So wrong arguments meet each other as well, and
 * the exception that is documented first is asked for wherever several apply.
 */
public final class BoundaryValuesTest {
    private static final Check CHECK = new Check("BoundaryValuesTest");
    private static final int CALLS = 512;
    private static final int LEAST = Integer.MIN_VALUE;
    private static final int MOST = Integer.MAX_VALUE;

    /** More combinations than this are too many: then only the numbers near the limits meet each other. */
    private static final int MANY = 3000;

    /**
     * The methods, and what their arguments are: R a relation, A an arity of a relation, T a tuple, B a bit, P a
     * position, K an arity of an operation, C a code of it, G an argument, I a code of arity 2, D a kind, N a number of
     * variables, V a variable, S a solution's number, M a polymorphism's number, X an assignment, Q a constraint, O a
     * place in the output, L a slot, E a length, J an element, F a flag, H a character.
     */
    private static final String[] QUESTIONS = {
        "contains R T", "tupleCount R", "arity R", "relationCount", "areEqual R R", "apply K C B B B",
        "preserves K C R", "isPolymorphism K C", "polymorphismCount K", "polymorphism K M", "isIdempotent K C",
        "isMonotone K C", "projectedArgument K C", "dual K C", "dependsOn K C G", "compose K C I",
        "relationHasKind R D", "hasKind D", "lowestKind", "solutionCount", "solution S", "isForced V B",
        "leastSolution", "greatestSolution", "implies V B V B", "dimension", "firstViolated X", "isRedundant Q",
        "errorPosition", "outputAt O"
    };
    private static final String[] CHANGES = {
        "addRelation A", "addClause A T", "addParity A B", "addTuple R T", "removeTuple R T", "clear",
        "addComplement R", "addIntersection R R", "addProjection R P", "addExchanged R P P", "close R K C",
        "setVariables N", "addConstraint R V V V V", "removeLastConstraint", "define A V V V V", "removeRedundant",
        "append H", "parse", "write R", "storeFlags L E R", "setFlag L J F", "takeFlags L R", "saveSnapshot",
        "restoreSnapshot"
    };

    /** Objects at limits, each as the calls that make it. */
    private static final String[] STATES = {
        "",
        // Something of all, and no kind.
        "addClause 1 0;addParity 2 1;addClause 3 5;setVariables 3;addConstraint 1 2 0 0 0;saveSnapshot;setVariables 5;"
            + "addParity 4 0;addConstraint 1 0 1 0 0;addConstraint 2 1 2 3 0;addConstraint 3 4 3 2 0;"
            + "addConstraint 0 4 0 0 0;append 0;append ,;parse;append 0;append 1;write 1;storeFlags 0 16 3;"
            + "storeFlags 1 3 2",
        // Eight relations, ten variables, twenty constraints, sixty characters, and three arrays.
        "setVariables 10;addClause 1 1;addClause 2 0;addClause 3 1;addClause 4 0;addParity 1 1;addParity 2 0;"
            + "addParity 3 1;define 4 0 1 2 3;addConstraint 4 0 0 0 0;addConstraint 0 9 0 0 0;addConstraint 4 4 0 0 0;"
            + "addConstraint 0 8 0 0 0;16*addConstraint 3 4 1 9 5;saveSnapshot;parse;30*append 1;30*append 0;"
            + "write 7;storeFlags 0 16 7;storeFlags 1 16 3;storeFlags 2 0 7",
        // One before each of these limits.
        "setVariables 9;7*addClause 4 15;addConstraint 6 8 8 8 8;addConstraint 6 0 0 0 0;addConstraint 6 3 3 3 3;"
            + "16*addConstraint 6 8 0 7 1;append 1;29*append 0;29*append ,;storeFlags 2 15 6",
        // No solutions, and all kinds.
        "setVariables 2;addRelation 2;addConstraint 0 0 1 0 0;addConstraint 0 1 0 0 0;append 1",
        // No solutions, and no kind.
        "setVariables 2;addRelation 2;addConstraint 0 0 1 0 0;addRelation 3;addTuple 1 1;addTuple 1 2;addTuple 1 4",
        // A single solution, and kinds 2, 3, 4 and 5.
        "addParity 1 1;addParity 1 0;addConstraint 0 0 0 0 0;storeFlags 0 1 0;write 0",
        // All assignments of seven variables, more than a word of 64, and a relation with all tuples.
        "setVariables 7;define 4 0 1 5 6;addConstraint 0 6 5 4 3;write 0;append 0"
    };

    /** What is looked at behind a call that may change something. */
    private static final String[] PROBES = {
        "relationCount", "solutionCount", "solution 0", "firstViolated 0", "firstViolated 1", "isRedundant 0",
        "isRedundant 1", "isRedundant 19", "isForced 0 0", "isForced 9 0", "outputAt 0", "outputAt 78", "errorPosition",
        "setFlag 0 0 true", "setFlag 1 0 true", "setFlag 2 0 true", "setFlag 0 15 false", "setFlag 2 14 false",
        "append 1", "parse", "errorPosition", "removeLastConstraint", "restoreSnapshot", "relationCount",
        "solutionCount"
    };

    private final String script;
    private Pair pair;
    private int combinations = 0;

    private BoundaryValuesTest(String script) {
        this.script = script;
        this.pair = made();
    }

    public static void main(String[] args) {
        for (String script : STATES) {
            BoundaryValuesTest state = new BoundaryValuesTest(script);
            for (String question : QUESTIONS) {
                state.tryAll(question.split(" "), false);
            }
            for (String change : CHANGES) {
                state.tryAll(change.split(" "), true);
            }
            CHECK.isTrue("combinations", state.combinations > 1000);
        }
        CHECK.end();
    }

    private Pair made() {
        Pair made = new Pair();
        for (String call : script.isEmpty() ? new String[0] : script.split(";")) {
            int times = call.contains("*") ? Integer.parseInt(call.substring(0, call.indexOf('*'))) : 1;
            for (int i = 0; i < times; i++) {
                made.isSameAsWritten(call.substring(call.indexOf('*') + 1));
            }
        }
        return made;
    }

    private void tryAll(String[] parts, boolean changes) {
        pair = made();
        List<Object[]> full = new ArrayList<>();
        List<Object[]> near = new ArrayList<>();
        long product = 1;
        for (int i = 1; i < parts.length; i++) {
            full.add(distinct(values(parts[i].charAt(0), false)));
            near.add(distinct(values(parts[i].charAt(0), true)));
            product *= full.get(i - 1).length;
        }
        if (product <= MANY) {
            combine(parts[0], full, 0, new Object[full.size()], changes);
            return;
        }
        combine(parts[0], near, 0, new Object[near.size()], changes);
        for (int far = 0; far < full.size(); far++) {
            farOne(parts[0], full, near, far, changes);
        }
    }

    /** One argument takes all its values, the others an ordinary one. */
    private void farOne(String name, List<Object[]> full, List<Object[]> near, int far, boolean changes) {
        for (Object value : full.get(far)) {
            Object[] arguments = new Object[full.size()];
            for (int i = 0; i < arguments.length; i++) {
                arguments[i] = i == far ? value : near.get(i)[0];
            }
            tryOne(name, arguments, changes);
        }
    }

    private void combine(String name, List<Object[]> values, int place, Object[] arguments, boolean changes) {
        if (place == arguments.length) {
            tryOne(name, arguments.clone(), changes);
            return;
        }
        for (Object value : values.get(place)) {
            arguments[place] = value;
            combine(name, values, place + 1, arguments, changes);
        }
    }

    private void tryOne(String name, Object[] arguments, boolean changes) {
        if (changes || pair.calls() == CALLS) {
            pair = made();
        }
        combinations++;
        boolean same = pair.isSame(name, arguments);
        if (changes) {
            for (String probe : PROBES) {
                same = same && pair.isSameAsWritten(probe);
            }
        }
        CHECK.isTrue(name, same);
        if (!same) {
            System.out.println(pair.story());
            pair = made();
        }
    }

    /** Numbers at the limits, an ordinary one first; those near the limits alone, or with those far away. */
    private Object[] values(char kind, boolean near) {
        switch (kind) {
            case 'F': return new Object[] {true, false};
            case 'H': return new Object[] {'1', (char) 0, (char) 31, ' ', ',', '~', (char) 127, (char) 65535};
            default: return near ? near(kind) : withFar(near(kind));
        }
    }

    private static Object[] withFar(Integer[] near) {
        List<Object> all = new ArrayList<>(List.of((Object[]) near));
        all.add(LEAST);
        all.add(MOST);
        return all.toArray();
    }

    private static Object[] distinct(Object[] values) {
        return java.util.Arrays.stream(values).distinct().toArray();
    }

    private Integer[] near(char kind) {
        int relations = pair.model.relationCount();
        switch (kind) {
            case 'R': return new Integer[] {0, -1, relations - 1, relations, 7, 8};
            case 'A': return new Integer[] {2, 0, 1, 3, 4, 5};
            case 'T': return new Integer[] {0, -1, 1, 2, 3, 4, 7, 8, 15, 16};
            case 'B': return new Integer[] {0, -1, 1, 2};
            case 'P': return new Integer[] {0, -1, 1, 2, 3, 4};
            case 'K': return new Integer[] {1, 0, 2, 3, 4};
            case 'C': return new Integer[] {1, -1, 0, 3, 4, 15, 16, 255, 256};
            case 'G': return new Integer[] {0, -1, 1, 2, 3};
            case 'I': return new Integer[] {0, -1, 15, 16};
            case 'D': return new Integer[] {0, -1, 1, 2, 3, 4, 5, 6};
            case 'N': return new Integer[] {1, -1, 0, 10, 11};
            default: return nearOfInstance(kind);
        }
    }

    private Integer[] nearOfInstance(char kind) {
        int variables = pair.model.variableCount();
        int constraints = pair.model.constraintCount();
        int solutions = pair.model.solutionCount();
        switch (kind) {
            case 'V': return new Integer[] {0, -1, variables - 1, variables};
            case 'S': return new Integer[] {0, -1, solutions - 1, solutions, 1023, 1024};
            case 'M': return new Integer[] {0, -1, 1, 3, 4, 15, 16, 255, 256};
            case 'X': return new Integer[] {0, -1, (1 << variables) - 1, 1 << variables, 1023, 1024};
            case 'Q': return new Integer[] {0, -1, constraints - 1, constraints, 19, 20};
            case 'O': return new Integer[] {0, -1, 1, 4, 5, 78, 79};
            case 'L': return new Integer[] {0, -1, 1, 2, 3};
            case 'E': return new Integer[] {4, -1, 0, 1, 15, 16, 17};
            case 'J': return new Integer[] {0, -1, 1, 2, 3, 14, 15, 16};
            default: throw new IllegalArgumentException("no such kind of argument");
        }
    }
}
