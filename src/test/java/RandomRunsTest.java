import java.util.ArrayList;
import java.util.List;
import java.util.Random;

/** All promises at once: the same calls, chosen by chance from fixed seeds, to an object and to the model. */
public final class RandomRunsTest {
    private static final int RUNS = 700;
    private static final int CALLS = 512;

    /**
     * How often a call comes, its name, and what its arguments are: R a relation, A an arity of a relation, T a tuple,
     * B a bit, P a position, K an arity of an operation, C a code of it, G an argument, I a code of arity 2, D a kind,
     * N a number of variables, V a variable, S a number of a solution, M a number of a polymorphism, X an assignment,
     * Q a constraint, O a place in the output, L a slot, E a length, F a flag, H a character.
     */
    private static final String[] CALLS_TO_MAKE = {
        "6 addRelation A", "6 addClause A T", "6 addParity A B", "30 addTuple R T", "10 removeTuple R T",
        "10 contains R T", "5 tupleCount R", "5 arity R", "3 relationCount", "6 areEqual R R", "3 clear",
        "4 addComplement R", "6 addIntersection R R", "6 addProjection R P", "6 addExchanged R P P",
        "6 apply K C B B B", "10 preserves K C R", "6 isPolymorphism K C", "3 polymorphismCount K",
        "5 polymorphism K M", "4 isIdempotent K C", "4 isMonotone K C", "4 projectedArgument K C", "8 close R K C",
        "4 dual K C", "4 dependsOn K C G", "4 compose K C I", "8 relationHasKind R D", "8 hasKind D",
        "5 lowestKind", "5 setVariables N", "45 addConstraint R V V V V", "8 removeLastConstraint",
        "10 solutionCount", "14 solution S", "10 isForced V B", "8 leastSolution", "8 greatestSolution",
        "12 implies V B V B", "8 dimension", "10 define A V V V V", "10 firstViolated X", "8 isRedundant Q",
        "3 removeRedundant", "10 append H", "5 parse", "4 errorPosition", "8 write R", "10 outputAt O",
        "8 storeFlags L E R", "8 setFlag L T F", "8 takeFlags L R", "3 saveSnapshot", "3 restoreSnapshot"
    };

    private static final Check CHECK = new Check("RandomRunsTest");

    private final Random random;
    private final Pair pair = new Pair();
    private boolean agrees = true;
    private int arity = 1;

    private RandomRunsTest(int seed) {
        random = new Random(seed);
    }

    public static void main(String[] args) {
        int runs = args.length > 2 ? Integer.parseInt(args[2]) : RUNS;
        List<String> choices = new ArrayList<>();
        for (String call : CALLS_TO_MAKE) {
            int often = Integer.parseInt(call.substring(0, call.indexOf(' ')));
            for (int i = 0; i < often; i++) {
                choices.add(call);
            }
        }
        for (int seed = 0; seed < runs; seed++) {
            RandomRunsTest run = new RandomRunsTest(seed);
            run.go(choices, CALLS_TO_MAKE[seed % CALLS_TO_MAKE.length]);
            CHECK.isTrue("seed " + seed, run.agrees);
            if (!run.agrees) {
                System.out.println(run.pair.story());
                break;
            }
        }
        CHECK.end();
    }

    /** A run of just 512 calls; the last one is told, so that each method has its turn there. */
    private void go(List<String> choices, String last) {
        while (agrees && pair.calls() < CALLS - 1) {
            if (random.nextInt(60) == 0) {
                type();
            } else {
                callAsTold(choices.get(random.nextInt(choices.size())));
            }
        }
        callAsTold(last);
    }

    private void callAsTold(String told) {
        String[] parts = told.split(" ");
        Object[] arguments = new Object[parts.length - 2];
        for (int i = 0; i < arguments.length; i++) {
            arguments[i] = argument(parts[i + 2].charAt(0));
        }
        agrees = agrees && pair.isSame(parts[1], arguments);
    }

    /** A text that is right or nearly so, which single characters by chance hardly ever are. */
    private void type() {
        int width = 1 + random.nextInt(4);
        int tuples = 1 + random.nextInt(6);
        StringBuilder text = new StringBuilder();
        for (int tuple = 0; tuple < tuples; tuple++) {
            int digits = random.nextInt(12) == 0 ? random.nextInt(6) : width;
            for (int i = 0; i < digits; i++) {
                text.append(random.nextBoolean() ? '1' : '0');
            }
            text.append(tuple < tuples - 1 ? "," : "");
        }
        if (pair.calls() + text.length() + 2 < CALLS) {
            for (int i = 0; i < text.length(); i++) {
                agrees = agrees && pair.isSame("append", text.charAt(i));
            }
            agrees = agrees && pair.isSame("parse") && pair.isSame("errorPosition");
        }
    }

    private Object argument(char kind) {
        switch (kind) {
            case 'F':
                return random.nextBoolean();
            case 'H':
                return "01,01,01,01, 2x".charAt(random.nextInt(15));
            case 'K':
                arity = number(1, 3);
                return arity;
            case 'A':
                arity = number(1, 4);
                return arity;
            case 'C':
                return number(0, arity >= 1 && arity <= 3 ? (1 << (1 << arity)) - 1 : 15);
            default:
                return place(kind);
        }
    }

    private int place(char kind) {
        int relations = pair.model.relationCount();
        switch (kind) {
            case 'R': return number(0, Math.max(0, relations - 1));
            case 'T': return number(0, (1 << 1 + random.nextInt(4)) - 1);
            case 'B': return number(0, 1);
            case 'P': return number(0, random.nextInt(4));
            case 'G': return number(0, 2);
            case 'I': return number(0, 15);
            case 'D': return number(0, 5);
            case 'N': return number(1, random.nextInt(3) == 0 ? 10 : 5);
            case 'V': return random.nextInt(3) == 0 ? number(0, 9) : number(0, 2);
            case 'S': return number(0, Math.max(0, pair.model.solutionCount() - 1));
            case 'M': return number(0, 4);
            case 'X': return number(0, random.nextInt(3) == 0 ? 1023 : 7);
            case 'Q': return number(0, random.nextInt(20));
            case 'O': return number(0, random.nextInt(20));
            case 'L': return number(0, 2);
            default: return number(0, 16);
        }
    }

    /** A number of a range, and now and then one beside it or far from it. */
    private int number(int least, int most) {
        switch (random.nextInt(60)) {
            case 0: return least - 1;
            case 1: return most + 1;
            case 2: return new int[] {Integer.MIN_VALUE, Integer.MAX_VALUE, 32, -32, 33}[random.nextInt(5)];
            default: return least + random.nextInt(most - least + 1);
        }
    }
}
