import java.util.ArrayList;
import java.util.List;
import java.util.NoSuchElementException;

/** The document's words once more, in their slowest form: sets as arrays of booleans, and all tried one by one. */
final class Model {
    private static final class Relation {
        final int arity;
        final boolean[] in;

        Relation(int arity) {
            this.arity = arity;
            this.in = new boolean[1 << arity];
        }

        Relation copy() {
            Relation copy = new Relation(arity);
            System.arraycopy(in, 0, copy.in, 0, in.length);
            return copy;
        }

        int count() {
            int count = 0;
            for (boolean element : in) {
                count += element ? 1 : 0;
            }
            return count;
        }
    }

    private static final class Constraint {
        final int relation;
        final int[] variables;

        Constraint(int relation, int[] variables) {
            this.relation = relation;
            this.variables = variables;
        }
    }

    private interface Operation {
        int value(int x, int y, int z);
    }

    private List<Relation> relations = new ArrayList<>();
    private List<Constraint> constraints = new ArrayList<>();
    private int variables = 1;
    private String input = "";
    private int error = -1;
    private String output = "";
    private final boolean[][] flags = new boolean[3][];
    private List<Relation> savedRelations = null;
    private List<Constraint> savedConstraints = null;
    private int savedVariables = 0;

    private static void argument(boolean right) {
        if (!right) {
            throw new IllegalArgumentException();
        }
    }

    private static void index(boolean right) {
        if (!right) {
            throw new IndexOutOfBoundsException();
        }
    }

    private static void state(boolean right) {
        if (!right) {
            throw new IllegalStateException();
        }
    }

    private static void element(boolean right) {
        if (!right) {
            throw new NoSuchElementException();
        }
    }

    private static void supported(boolean right) {
        if (!right) {
            throw new UnsupportedOperationException();
        }
    }

    private static boolean within(int value, int least, int most) {
        return value >= least && value <= most;
    }

    private Relation relation(int number) {
        index(within(number, 0, relations.size() - 1));
        return relations.get(number);
    }

    private int put(Relation relation) {
        state(relations.size() < 8);
        relations.add(relation);
        return relations.size() - 1;
    }

    private static int digit(int tuple, int position) {
        return tuple / (1 << position) % 2;
    }

    // ---- what the document's face does not tell, for tests that choose their arguments

    int variableCount() {
        return variables;
    }

    int constraintCount() {
        return constraints.size();
    }

    // ---- relations

    int addRelation(int arity) {
        argument(within(arity, 1, 4));
        return put(new Relation(arity));
    }

    int addClause(int arity, int signs) {
        argument(within(arity, 1, 4) && within(signs, 0, (1 << arity) - 1));
        Relation relation = new Relation(arity);
        for (int tuple = 0; tuple < relation.in.length; tuple++) {
            relation.in[tuple] = tuple != signs;
        }
        return put(relation);
    }

    int addParity(int arity, int sum) {
        argument(within(arity, 1, 4) && within(sum, 0, 1));
        Relation relation = new Relation(arity);
        for (int tuple = 0; tuple < relation.in.length; tuple++) {
            int total = 0;
            for (int position = 0; position < arity; position++) {
                total += digit(tuple, position);
            }
            relation.in[tuple] = total % 2 == sum;
        }
        return put(relation);
    }

    boolean addTuple(int number, int tuple) {
        boolean before = contains(number, tuple);
        relation(number).in[tuple] = true;
        return !before;
    }

    boolean removeTuple(int number, int tuple) {
        boolean before = contains(number, tuple);
        relation(number).in[tuple] = false;
        return before;
    }

    boolean contains(int number, int tuple) {
        Relation relation = relation(number);
        argument(within(tuple, 0, relation.in.length - 1));
        return relation.in[tuple];
    }

    int tupleCount(int number) {
        return relation(number).count();
    }

    int arity(int number) {
        return relation(number).arity;
    }

    int relationCount() {
        return relations.size();
    }

    boolean areEqual(int number, int other) {
        return java.util.Arrays.equals(relation(number).in, relation(other).in);
    }

    int clear() {
        int count = relations.size();
        relations.clear();
        constraints.clear();
        return count;
    }

    int addComplement(int number) {
        Relation complement = new Relation(relation(number).arity);
        for (int tuple = 0; tuple < complement.in.length; tuple++) {
            complement.in[tuple] = !relation(number).in[tuple];
        }
        return put(complement);
    }

    int addIntersection(int number, int other) {
        Relation first = relation(number);
        Relation second = relation(other);
        argument(first.arity == second.arity);
        Relation both = new Relation(first.arity);
        for (int tuple = 0; tuple < both.in.length; tuple++) {
            both.in[tuple] = first.in[tuple] && second.in[tuple];
        }
        return put(both);
    }

    int addProjection(int number, int position) {
        Relation from = relation(number);
        index(within(position, 0, from.arity - 1));
        argument(from.arity > 1);
        Relation projection = new Relation(from.arity - 1);
        for (int tuple = 0; tuple < from.in.length; tuple++) {
            StringBuilder digits = new StringBuilder(digits(tuple, from.arity));
            digits.deleteCharAt(position);
            projection.in[tuple(digits.toString())] |= from.in[tuple];
        }
        return put(projection);
    }

    int addExchanged(int number, int i, int j) {
        Relation from = relation(number);
        index(within(i, 0, from.arity - 1) && within(j, 0, from.arity - 1));
        Relation exchanged = new Relation(from.arity);
        for (int tuple = 0; tuple < from.in.length; tuple++) {
            StringBuilder digits = new StringBuilder(digits(tuple, from.arity));
            char kept = digits.charAt(i);
            digits.setCharAt(i, digits.charAt(j));
            digits.setCharAt(j, kept);
            exchanged.in[tuple(digits.toString())] |= from.in[tuple];
        }
        return put(exchanged);
    }

    private static String digits(int tuple, int arity) {
        StringBuilder text = new StringBuilder();
        for (int position = 0; position < arity; position++) {
            text.append(digit(tuple, position));
        }
        return text.toString();
    }

    private static int tuple(String digits) {
        int tuple = 0;
        for (int position = 0; position < digits.length(); position++) {
            tuple += (digits.charAt(position) - '0') << position;
        }
        return tuple;
    }

    // ---- operations

    private static void operation(int arity, int code) {
        argument(within(arity, 1, 3) && within(code, 0, (1 << (1 << arity)) - 1));
    }

    private static int value(int arity, int code, int x, int y, int z) {
        return digit(code, x + (arity > 1 ? 2 * y : 0) + (arity > 2 ? 4 * z : 0));
    }

    int apply(int arity, int code, int x, int y, int z) {
        operation(arity, code);
        argument(within(x, 0, 1) && within(y, 0, 1) && within(z, 0, 1));
        return value(arity, code, x, y, z);
    }

    private static int given(Operation operation, int arity, int a, int b, int c) {
        int tuple = 0;
        for (int position = 0; position < arity; position++) {
            tuple += operation.value(digit(a, position), digit(b, position), digit(c, position)) << position;
        }
        return tuple;
    }

    /** Adds what an operation gives for three tuples of the relation, and says whether any was missing. */
    private static boolean grow(Relation relation, Operation operation, boolean keep) {
        boolean grown = false;
        for (int a = 0; a < relation.in.length; a++) {
            for (int b = 0; b < relation.in.length; b++) {
                for (int c = 0; c < relation.in.length; c++) {
                    if (relation.in[a] && relation.in[b] && relation.in[c]) {
                        int tuple = given(operation, relation.arity, a, b, c);
                        if (!relation.in[tuple]) {
                            grown = true;
                            if (!keep) {
                                return true;
                            }
                            relation.in[tuple] = true;
                        }
                    }
                }
            }
        }
        return grown;
    }

    boolean preserves(int arity, int code, int number) {
        operation(arity, code);
        return !grow(relation(number), (x, y, z) -> value(arity, code, x, y, z), false);
    }

    boolean isPolymorphism(int arity, int code) {
        operation(arity, code);
        for (int number = 0; number < relations.size(); number++) {
            if (!preserves(arity, code, number)) {
                return false;
            }
        }
        return true;
    }

    private List<Integer> polymorphisms(int arity) {
        argument(within(arity, 1, 3));
        List<Integer> found = new ArrayList<>();
        for (int code = 0; code < 1 << (1 << arity); code++) {
            if (isPolymorphism(arity, code)) {
                found.add(code);
            }
        }
        return found;
    }

    int polymorphismCount(int arity) {
        return polymorphisms(arity).size();
    }

    int polymorphism(int arity, int number) {
        List<Integer> found = polymorphisms(arity);
        element(within(number, 0, found.size() - 1));
        return found.get(number);
    }

    boolean isIdempotent(int arity, int code) {
        operation(arity, code);
        return value(arity, code, 0, 0, 0) == 0 && value(arity, code, 1, 1, 1) == 1;
    }

    boolean isMonotone(int arity, int code) {
        operation(arity, code);
        for (int low = 0; low < 1 << arity; low++) {
            for (int argument = 0; argument < arity; argument++) {
                int high = digit(low, argument) == 0 ? low + (1 << argument) : low;
                if (digit(code, low) > digit(code, high)) {
                    return false;
                }
            }
        }
        return true;
    }

    int projectedArgument(int arity, int code) {
        operation(arity, code);
        for (int argument = 0; argument < arity; argument++) {
            boolean agrees = true;
            for (int i = 0; i < 1 << arity; i++) {
                agrees &= digit(code, i) == digit(i, argument);
            }
            if (agrees) {
                return argument;
            }
        }
        throw new NoSuchElementException();
    }

    int close(int number, int arity, int code) {
        Relation relation = relation(number);
        operation(arity, code);
        while (grow(relation, (x, y, z) -> value(arity, code, x, y, z), true)) {
            continue;
        }
        return relation.count();
    }

    int dual(int arity, int code) {
        operation(arity, code);
        int dual = 0;
        for (int i = 0; i < 1 << arity; i++) {
            dual += (1 - value(arity, code, 1 - digit(i, 0), 1 - digit(i, 1), 1 - digit(i, 2))) << i;
        }
        return dual;
    }

    boolean dependsOn(int arity, int code, int argument) {
        operation(arity, code);
        index(within(argument, 0, arity - 1));
        for (int i = 0; i < 1 << arity; i++) {
            if (digit(i, argument) == 0 && digit(code, i) != digit(code, i + (1 << argument))) {
                return true;
            }
        }
        return false;
    }

    int compose(int arity, int code, int inner) {
        operation(arity, code);
        argument(within(inner, 0, 15));
        int composition = 0;
        for (int y = 0; y <= 1; y++) {
            for (int x = 0; x <= 1; x++) {
                int value = value(arity, code, value(2, inner, x, y, 0), value(2, inner, y, x, 0),
                    value(2, inner, x, x, 0));
                composition += value << (x + 2 * y);
            }
        }
        return composition;
    }

    // ---- kinds

    private static Operation ofKind(int kind) {
        switch (kind) {
            case 0: return (x, y, z) -> 0;
            case 1: return (x, y, z) -> 1;
            case 2: return (x, y, z) -> Math.min(x, y);
            case 3: return (x, y, z) -> Math.max(x, y);
            case 4: return (x, y, z) -> x + y + z >= 2 ? 1 : 0;
            default: return (x, y, z) -> (x + y + z) % 2;
        }
    }

    boolean relationHasKind(int number, int kind) {
        Relation relation = relation(number);
        argument(within(kind, 0, 5));
        return !grow(relation, ofKind(kind), false);
    }

    boolean hasKind(int kind) {
        argument(within(kind, 0, 5));
        for (int number = 0; number < relations.size(); number++) {
            if (!relationHasKind(number, kind)) {
                return false;
            }
        }
        return true;
    }

    int lowestKind() {
        for (int kind = 0; kind < 6; kind++) {
            if (hasKind(kind)) {
                return kind;
            }
        }
        throw new NoSuchElementException();
    }

    // ---- instances

    int setVariables(int count) {
        argument(within(count, 1, 10));
        int removed = constraints.size();
        variables = count;
        constraints.clear();
        return removed;
    }

    private int[] chosen(int arity, int... v) {
        int[] chosen = new int[arity];
        for (int position = 0; position < arity; position++) {
            index(within(v[position], 0, variables - 1));
            chosen[position] = v[position];
        }
        return chosen;
    }

    int addConstraint(int number, int v0, int v1, int v2, int v3) {
        int[] chosen = chosen(relation(number).arity, v0, v1, v2, v3);
        state(constraints.size() < 20);
        constraints.add(new Constraint(number, chosen));
        return constraints.size() - 1;
    }

    int removeLastConstraint() {
        state(!constraints.isEmpty());
        constraints.remove(constraints.size() - 1);
        return constraints.size();
    }

    private static int values(int assignment, int[] chosen) {
        int tuple = 0;
        for (int position = 0; position < chosen.length; position++) {
            tuple += digit(assignment, chosen[position]) << position;
        }
        return tuple;
    }

    private boolean holds(Constraint constraint, int assignment) {
        return relations.get(constraint.relation).in[values(assignment, constraint.variables)];
    }

    private List<Integer> solutions(Constraint without) {
        List<Integer> found = new ArrayList<>();
        for (int assignment = 0; assignment < 1 << variables; assignment++) {
            boolean all = true;
            for (Constraint constraint : constraints) {
                all = all && (constraint == without || holds(constraint, assignment));
            }
            if (all) {
                found.add(assignment);
            }
        }
        return found;
    }

    int solutionCount() {
        return solutions(null).size();
    }

    int solution(int number) {
        List<Integer> found = solutions(null);
        element(within(number, 0, found.size() - 1));
        return found.get(number);
    }

    boolean isForced(int variable, int value) {
        index(within(variable, 0, variables - 1));
        argument(within(value, 0, 1));
        for (int assignment : solutions(null)) {
            if (digit(assignment, variable) != value) {
                return false;
            }
        }
        return true;
    }

    int leastSolution() {
        supported(hasKind(2));
        element(solutionCount() > 0);
        int least = -1;
        for (int assignment : solutions(null)) {
            least &= assignment;
        }
        return least;
    }

    int greatestSolution() {
        supported(hasKind(3));
        element(solutionCount() > 0);
        int greatest = 0;
        for (int assignment : solutions(null)) {
            greatest |= assignment;
        }
        return greatest;
    }

    boolean implies(int variable, int value, int other, int otherValue) {
        supported(hasKind(4));
        index(within(variable, 0, variables - 1) && within(other, 0, variables - 1));
        argument(within(value, 0, 1) && within(otherValue, 0, 1));
        for (int assignment : solutions(null)) {
            if (digit(assignment, variable) == value && digit(assignment, other) != otherValue) {
                return false;
            }
        }
        return true;
    }

    int dimension() {
        supported(hasKind(5));
        int count = solutionCount();
        element(count > 0);
        int exponent = 0;
        while (1 << exponent != count) {
            exponent++;
        }
        return exponent;
    }

    int define(int arity, int v0, int v1, int v2, int v3) {
        argument(within(arity, 1, 4));
        int[] chosen = chosen(arity, v0, v1, v2, v3);
        Relation relation = new Relation(arity);
        for (int assignment : solutions(null)) {
            relation.in[values(assignment, chosen)] = true;
        }
        return put(relation);
    }

    int firstViolated(int assignment) {
        argument(within(assignment, 0, (1 << variables) - 1));
        for (int number = 0; number < constraints.size(); number++) {
            if (!holds(constraints.get(number), assignment)) {
                return number;
            }
        }
        throw new NoSuchElementException();
    }

    boolean isRedundant(int number) {
        index(within(number, 0, constraints.size() - 1));
        return solutions(constraints.get(number)).equals(solutions(null));
    }

    int removeRedundant() {
        int removed = 0;
        for (int number = constraints.size() - 1; number >= 0; number--) {
            if (isRedundant(number)) {
                constraints.remove(number);
                removed++;
            }
        }
        return removed;
    }

    // ---- text

    int append(char character) {
        argument(within(character, 32, 126));
        state(input.length() < 60);
        input += character;
        return input.length();
    }

    private static boolean isText(String text) {
        return text.matches("[01](,[01])*|[01]{2}(,[01]{2})*|[01]{3}(,[01]{3})*|[01]{4}(,[01]{4})*");
    }

    /** Whether a valid text starts so: then one does that is longer by at most four digits. */
    private static boolean startsText(String text) {
        for (String rest : new String[] {"", "0", "00", "000", "0000"}) {
            if (isText(text + rest)) {
                return true;
            }
        }
        return false;
    }

    int parse() {
        String text = input;
        input = "";
        if (!isText(text)) {
            error = 0;
            while (error < text.length() && startsText(text.substring(0, error + 1))) {
                error++;
            }
            throw new IllegalArgumentException();
        }
        String[] tuples = text.split(",");
        Relation relation = new Relation(tuples[0].length());
        for (String digits : tuples) {
            relation.in[tuple(digits)] = true;
        }
        return put(relation);
    }

    int errorPosition() {
        state(error >= 0);
        return error;
    }

    int write(int number) {
        Relation relation = relation(number);
        List<String> tuples = new ArrayList<>();
        for (int tuple = 0; tuple < relation.in.length; tuple++) {
            if (relation.in[tuple]) {
                tuples.add(digits(tuple, relation.arity));
            }
        }
        output = String.join(",", tuples);
        return output.length();
    }

    char outputAt(int at) {
        index(within(at, 0, output.length() - 1));
        return output.charAt(at);
    }

    // ---- flags

    int storeFlags(int slot, int length, int number) {
        index(within(slot, 0, 2));
        Relation relation = relation(number);
        argument(within(length, 0, 16));
        flags[slot] = new boolean[length];
        int count = 0;
        for (int i = 0; i < length && i < relation.in.length; i++) {
            flags[slot][i] = relation.in[i];
            count += relation.in[i] ? 1 : 0;
        }
        return count;
    }

    boolean setFlag(int slot, int at, boolean value) {
        index(within(slot, 0, 2));
        state(flags[slot] != null);
        index(within(at, 0, flags[slot].length - 1));
        boolean previous = flags[slot][at];
        flags[slot][at] = value;
        return previous;
    }

    int takeFlags(int slot, int number) {
        index(within(slot, 0, 2));
        Relation relation = relation(number);
        state(flags[slot] != null);
        for (int tuple = 0; tuple < relation.in.length; tuple++) {
            relation.in[tuple] = tuple < flags[slot].length && flags[slot][tuple];
        }
        return relation.count();
    }

    // ---- snapshot

    private static List<Relation> copies(List<Relation> from) {
        List<Relation> copies = new ArrayList<>();
        for (Relation relation : from) {
            copies.add(relation.copy());
        }
        return copies;
    }

    int saveSnapshot() {
        savedRelations = copies(relations);
        savedConstraints = new ArrayList<>(constraints);
        savedVariables = variables;
        return relations.size();
    }

    int restoreSnapshot() {
        state(savedRelations != null);
        relations = copies(savedRelations);
        constraints = new ArrayList<>(savedConstraints);
        variables = savedVariables;
        return relations.size();
    }
}
