import java.util.NoSuchElementException;

/**
 * A workbench for Boolean constraint languages: relations, the operations that preserve them, the six kinds of
 * languages for which constraint satisfaction is easy, and instances with their solutions.
 *
 * <p>A set of tuples is an int whose bit t tells whether tuple t is in it, so that a relation needs no object.
 */
public final class BooleanConstraints {
    public static final int MAX_RELATIONS = 8;
    public static final int MAX_VARIABLES = 10;
    public static final int MAX_CONSTRAINTS = 20;

    private static final int MAX_RELATION_ARITY = 4;
    private static final int MAX_OPERATION_ARITY = 3;
    private static final int MAX_TUPLES = 16;
    private static final int MAX_INPUT = 60;
    /** Sixteen tuples of four digits, and the commas between them. */
    private static final int MAX_OUTPUT = 79;
    private static final int SLOT_COUNT = 3;
    private static final int MAX_FLAGS = 16;

    private static final int NO_ARRAY = -1;
    private static final int NO_POSITION = -1;

    /** The set of the tuple 0 alone: what an argument that does not count runs through. */
    private static final int TUPLE_ZERO_ALONE = 1;

    private static final int KIND_COUNT = 6;
    private static final int MINIMUM_KIND = 2;
    private static final int MAXIMUM_KIND = 3;
    private static final int MAJORITY_KIND = 4;
    private static final int SUM_KIND = 5;
    private static final int[] KIND_ARITIES = {1, 1, 2, 2, 3, 3};
    private static final int[] KIND_CODES = {0, 3, 8, 14, 232, 150};

    /** The codes of the operations of arity 3 that give their first, second and third argument. */
    private static final int[] ARGUMENT_CODES = {170, 204, 240};

    private final Instance current = new Instance();
    private final Instance saved = new Instance();
    private boolean hasSnapshot = false;

    private final char[] input = new char[MAX_INPUT];
    private int inputLength = 0;
    private int lastErrorPosition = NO_POSITION;

    private final char[] output = new char[MAX_OUTPUT];
    private int outputLength = 0;

    private final int[] flagLengths = {NO_ARRAY, NO_ARRAY, NO_ARRAY};
    /** Bit i of a slot's number is element i of its array; the bits beyond the length are 0. */
    private final int[] flagBits = new int[SLOT_COUNT];

    public BooleanConstraints() {
    }

    // ---- relations

    public int addRelation(int arity) throws IllegalArgumentException, IllegalStateException {
        requireRelationArity(arity);
        return addNew(arity, 0);
    }

    public int addClause(int arity, int signs) throws IllegalArgumentException, IllegalStateException {
        requireRelationArity(arity);
        if (signs < 0 || signs > greatestTuple(arity)) {
            throw new IllegalArgumentException("signs are out of range");
        }
        return addNew(arity, allTuples(arity) & ~(1 << signs));
    }

    public int addParity(int arity, int sum) throws IllegalArgumentException, IllegalStateException {
        requireRelationArity(arity);
        requireBit(sum);
        return addNew(arity, tuplesWithSum(arity, sum));
    }

    public boolean addTuple(int relation, int tuple) throws IndexOutOfBoundsException, IllegalArgumentException {
        requireRelation(relation);
        requireTuple(relation, tuple);
        boolean isNew = !has(current.tuples[relation], tuple);
        current.tuples[relation] |= 1 << tuple;
        return isNew;
    }

    public boolean removeTuple(int relation, int tuple) throws IndexOutOfBoundsException, IllegalArgumentException {
        requireRelation(relation);
        requireTuple(relation, tuple);
        boolean wasThere = has(current.tuples[relation], tuple);
        current.tuples[relation] &= ~(1 << tuple);
        return wasThere;
    }

    public boolean contains(int relation, int tuple) throws IndexOutOfBoundsException, IllegalArgumentException {
        requireRelation(relation);
        requireTuple(relation, tuple);
        return has(current.tuples[relation], tuple);
    }

    public int tupleCount(int relation) throws IndexOutOfBoundsException {
        requireRelation(relation);
        return Integer.bitCount(current.tuples[relation]);
    }

    public int arity(int relation) throws IndexOutOfBoundsException {
        requireRelation(relation);
        return current.arities[relation];
    }

    public int relationCount() {
        return current.relationCount;
    }

    public boolean areEqual(int relation, int other) throws IndexOutOfBoundsException {
        requireRelation(relation);
        requireRelation(other);
        return current.arities[relation] == current.arities[other]
            && current.tuples[relation] == current.tuples[other];
    }

    public int clear() {
        int removed = current.relationCount;
        current.relationCount = 0;
        current.constraintCount = 0;
        return removed;
    }

    public int addComplement(int relation) throws IndexOutOfBoundsException, IllegalStateException {
        requireRelation(relation);
        int arity = current.arities[relation];
        return addNew(arity, allTuples(arity) & ~current.tuples[relation]);
    }

    public int addIntersection(int relation, int other)
            throws IndexOutOfBoundsException, IllegalArgumentException, IllegalStateException {
        requireRelation(relation);
        requireRelation(other);
        if (current.arities[relation] != current.arities[other]) {
            throw new IllegalArgumentException("the relations have different arities");
        }
        return addNew(current.arities[relation], current.tuples[relation] & current.tuples[other]);
    }

    public int addProjection(int relation, int position)
            throws IndexOutOfBoundsException, IllegalArgumentException, IllegalStateException {
        requireRelation(relation);
        requirePosition(relation, position);
        int arity = current.arities[relation];
        if (arity == 1) {
            throw new IllegalArgumentException("the relation has arity 1");
        }
        return addNew(arity - 1, tuplesWithoutPosition(current.tuples[relation], position));
    }

    public int addExchanged(int relation, int i, int j) throws IndexOutOfBoundsException, IllegalStateException {
        requireRelation(relation);
        requirePosition(relation, i);
        requirePosition(relation, j);
        return addNew(current.arities[relation], tuplesWithExchange(current.tuples[relation], i, j));
    }

    // ---- operations

    public int apply(int arity, int code, int x, int y, int z) throws IllegalArgumentException {
        requireOperation(arity, code);
        requireBit(x);
        requireBit(y);
        requireBit(z);
        return valueFor(arity, code, x + 2 * y + 4 * z);
    }

    public boolean preserves(int arity, int code, int relation)
            throws IllegalArgumentException, IndexOutOfBoundsException {
        requireOperation(arity, code);
        requireRelation(relation);
        return isPreserved(relation, arity, code);
    }

    public boolean isPolymorphism(int arity, int code) throws IllegalArgumentException {
        requireOperation(arity, code);
        return areAllPreserved(arity, code);
    }

    public int polymorphismCount(int arity) throws IllegalArgumentException {
        requireOperationArity(arity);
        int count = 0;
        for (int code = 0; code <= allTuples(arity); code++) {
            if (areAllPreserved(arity, code)) {
                count++;
            }
        }
        return count;
    }

    public int polymorphism(int arity, int index) throws IllegalArgumentException, NoSuchElementException {
        requireOperationArity(arity);
        if (index >= 0) {
            int before = 0;
            for (int code = 0; code <= allTuples(arity); code++) {
                if (areAllPreserved(arity, code)) {
                    if (before == index) {
                        return code;
                    }
                    before++;
                }
            }
        }
        throw new NoSuchElementException("there is no such polymorphism");
    }

    public boolean isIdempotent(int arity, int code) throws IllegalArgumentException {
        requireOperation(arity, code);
        return !has(code, 0) && has(code, greatestTuple(arity));
    }

    public boolean isMonotone(int arity, int code) throws IllegalArgumentException {
        requireOperation(arity, code);
        for (int argument = 0; argument < arity; argument++) {
            if ((valuesAtZero(arity, code, argument) & ~valuesAtOne(arity, code, argument)) != 0) {
                return false;
            }
        }
        return true;
    }

    public int projectedArgument(int arity, int code) throws IllegalArgumentException, NoSuchElementException {
        requireOperation(arity, code);
        for (int argument = 0; argument < arity; argument++) {
            if (code == argumentCode(arity, argument)) {
                return argument;
            }
        }
        throw new NoSuchElementException("the operation agrees with no argument");
    }

    public int close(int relation, int arity, int code) throws IndexOutOfBoundsException, IllegalArgumentException {
        requireRelation(relation);
        requireOperation(arity, code);
        int tupleLength = current.arities[relation];
        int closure = current.tuples[relation];
        int missing = escapingTuples(closure, tupleLength, arity, code);
        // Each round adds a tuple, so there are no more rounds than tuples.
        for (int round = 0; round < MAX_TUPLES && missing != 0; round++) {
            closure |= missing;
            missing = escapingTuples(closure, tupleLength, arity, code);
        }
        current.tuples[relation] = closure;
        return Integer.bitCount(closure);
    }

    public int dual(int arity, int code) throws IllegalArgumentException {
        requireOperation(arity, code);
        int last = greatestTuple(arity);
        int dual = 0;
        for (int arguments = 0; arguments <= last; arguments++) {
            if (!has(code, last - arguments)) {
                dual |= 1 << arguments;
            }
        }
        return dual;
    }

    public boolean dependsOn(int arity, int code, int argument)
            throws IllegalArgumentException, IndexOutOfBoundsException {
        requireOperation(arity, code);
        if (argument < 0 || argument >= arity) {
            throw new IndexOutOfBoundsException("there is no such argument");
        }
        return valuesAtZero(arity, code, argument) != valuesAtOne(arity, code, argument);
    }

    public int compose(int arity, int code, int inner) throws IllegalArgumentException {
        requireOperation(arity, code);
        if (inner < 0 || inner > allTuples(2)) {
            throw new IllegalArgumentException("inner is out of range");
        }
        int composition = 0;
        for (int arguments = 0; arguments <= greatestTuple(2); arguments++) {
            int x = arguments & 1;
            int y = arguments >>> 1;
            int outerArguments = valueFor(2, inner, x + 2 * y)
                + 2 * valueFor(2, inner, y + 2 * x)
                + 4 * valueFor(2, inner, x + 2 * x);
            composition |= valueFor(arity, code, outerArguments) << arguments;
        }
        return composition;
    }

    // ---- kinds

    public boolean relationHasKind(int relation, int kind) throws IndexOutOfBoundsException, IllegalArgumentException {
        requireRelation(relation);
        requireKind(kind);
        return isPreserved(relation, KIND_ARITIES[kind], KIND_CODES[kind]);
    }

    public boolean hasKind(int kind) throws IllegalArgumentException {
        requireKind(kind);
        return isOfKind(kind);
    }

    public int lowestKind() throws NoSuchElementException {
        for (int kind = 0; kind < KIND_COUNT; kind++) {
            if (isOfKind(kind)) {
                return kind;
            }
        }
        throw new NoSuchElementException("the language is not easy");
    }

    // ---- instances

    public int setVariables(int count) throws IllegalArgumentException {
        if (count < 1 || count > MAX_VARIABLES) {
            throw new IllegalArgumentException("the number of variables is out of range");
        }
        int removed = current.constraintCount;
        current.variableCount = count;
        current.constraintCount = 0;
        return removed;
    }

    public int addConstraint(int relation, int v0, int v1, int v2, int v3)
            throws IndexOutOfBoundsException, IllegalStateException {
        requireRelation(relation);
        int arity = current.arities[relation];
        requireVariables(arity, v0, v1, v2, v3);
        if (current.constraintCount >= MAX_CONSTRAINTS) {
            throw new IllegalStateException("there are already 20 constraints");
        }
        int constraint = current.constraintCount;
        current.constraintRelations[constraint] = relation;
        current.constraintVariables[constraint] = packedVariables(arity, v0, v1, v2, v3);
        current.constraintCount++;
        return constraint;
    }

    public int removeLastConstraint() throws IllegalStateException {
        if (current.constraintCount <= 0) {
            throw new IllegalStateException("there are no constraints");
        }
        current.constraintCount--;
        return current.constraintCount;
    }

    public int solutionCount() {
        return current.countSolutions();
    }

    public int solution(int index) throws NoSuchElementException {
        int found = current.findSolution(index);
        if (found < 0) {
            throw new NoSuchElementException("there is no such solution");
        }
        return found;
    }

    public boolean isForced(int variable, int value) throws IndexOutOfBoundsException, IllegalArgumentException {
        requireVariable(variable);
        requireBit(value);
        return !has(current.variablesThatTake(1 - value), variable);
    }

    public int leastSolution() throws UnsupportedOperationException, NoSuchElementException {
        requireKindOfLanguage(MINIMUM_KIND);
        requireSolutions();
        return current.greatestAssignment() & ~current.variablesThatTake(0);
    }

    public int greatestSolution() throws UnsupportedOperationException, NoSuchElementException {
        requireKindOfLanguage(MAXIMUM_KIND);
        requireSolutions();
        return current.variablesThatTake(1);
    }

    public boolean implies(int variable, int value, int other, int otherValue)
            throws UnsupportedOperationException, IndexOutOfBoundsException, IllegalArgumentException {
        requireKindOfLanguage(MAJORITY_KIND);
        requireVariable(variable);
        requireVariable(other);
        requireBit(value);
        requireBit(otherValue);
        return !current.hasSolutionWith(variable, value, other, 1 - otherValue);
    }

    public int dimension() throws UnsupportedOperationException, NoSuchElementException {
        requireKindOfLanguage(SUM_KIND);
        requireSolutions();
        // The solutions of such a language are an affine space: their number is a power of 2, a single bit.
        return Integer.bitCount(current.countSolutions() - 1);
    }

    public int define(int arity, int v0, int v1, int v2, int v3)
            throws IllegalArgumentException, IndexOutOfBoundsException, IllegalStateException {
        requireRelationArity(arity);
        requireVariables(arity, v0, v1, v2, v3);
        return addNew(arity, current.tuplesOfSolutions(arity, packedVariables(arity, v0, v1, v2, v3)));
    }

    public int firstViolated(int assignment) throws IllegalArgumentException, NoSuchElementException {
        if (assignment < 0 || assignment > current.greatestAssignment()) {
            throw new IllegalArgumentException("there is no such assignment");
        }
        for (int constraint = 0; constraint < current.constraintCount; constraint++) {
            if (!current.isSatisfied(constraint, assignment)) {
                return constraint;
            }
        }
        throw new NoSuchElementException("the assignment is a solution");
    }

    public boolean isRedundant(int constraint) throws IndexOutOfBoundsException {
        if (constraint < 0 || constraint >= current.constraintCount) {
            throw new IndexOutOfBoundsException("there is no such constraint");
        }
        return current.isSpare(constraint, 0);
    }

    public int removeRedundant() {
        int removed = 0;
        for (int constraint = current.constraintCount - 1; constraint >= 0; constraint--) {
            if (current.isSpare(constraint, removed)) {
                removed |= 1 << constraint;
            }
        }
        current.removeConstraints(removed);
        return Integer.bitCount(removed);
    }

    // ---- text

    public int append(char character) throws IllegalArgumentException, IllegalStateException {
        if (character < 32 || character > 126) {
            throw new IllegalArgumentException("the character code is out of range");
        }
        if (inputLength >= MAX_INPUT) {
            throw new IllegalStateException("the input has 60 characters");
        }
        input[inputLength] = character;
        inputLength++;
        return inputLength;
    }

    public int parse() throws IllegalArgumentException, IllegalStateException {
        int length = inputLength;
        inputLength = 0;
        int wrong = wrongPosition(length);
        if (wrong != NO_POSITION) {
            lastErrorPosition = wrong;
            throw new IllegalArgumentException("the input is not a valid text");
        }
        int arity = firstTupleLength(length);
        return addNew(arity, readTuples(arity, length));
    }

    public int errorPosition() throws IllegalStateException {
        if (lastErrorPosition == NO_POSITION) {
            throw new IllegalStateException("no text was wrong so far");
        }
        return lastErrorPosition;
    }

    public int write(int relation) throws IndexOutOfBoundsException {
        requireRelation(relation);
        outputLength = 0;
        int arity = current.arities[relation];
        for (int tuple = 0; tuple <= greatestTuple(arity); tuple++) {
            if (has(current.tuples[relation], tuple)) {
                writeTuple(arity, tuple);
            }
        }
        return outputLength;
    }

    public char outputAt(int index) throws IndexOutOfBoundsException {
        if (index < 0 || index >= outputLength) {
            throw new IndexOutOfBoundsException("there is no such index of the output");
        }
        return output[index];
    }

    // ---- flags

    public int storeFlags(int slot, int length, int relation)
            throws IndexOutOfBoundsException, IllegalArgumentException {
        requireSlot(slot);
        requireRelation(relation);
        if (length < 0 || length > MAX_FLAGS) {
            throw new IllegalArgumentException("the length is out of range");
        }
        flagLengths[slot] = length;
        flagBits[slot] = current.tuples[relation] & ((1 << length) - 1);
        return Integer.bitCount(flagBits[slot]);
    }

    public boolean setFlag(int slot, int index, boolean value)
            throws IndexOutOfBoundsException, IllegalStateException {
        requireSlot(slot);
        requireFlags(slot);
        if (index < 0 || index >= flagLengths[slot]) {
            throw new IndexOutOfBoundsException("there is no such element");
        }
        boolean previous = has(flagBits[slot], index);
        if (value) {
            flagBits[slot] |= 1 << index;
        } else {
            flagBits[slot] &= ~(1 << index);
        }
        return previous;
    }

    public int takeFlags(int slot, int relation) throws IndexOutOfBoundsException, IllegalStateException {
        requireSlot(slot);
        requireRelation(relation);
        requireFlags(slot);
        current.tuples[relation] = flagBits[slot] & allTuples(current.arities[relation]);
        return Integer.bitCount(current.tuples[relation]);
    }

    // ---- snapshot

    public int saveSnapshot() {
        saved.copyFrom(current);
        hasSnapshot = true;
        return saved.relationCount;
    }

    public int restoreSnapshot() throws IllegalStateException {
        if (!hasSnapshot) {
            throw new IllegalStateException("no snapshot was saved");
        }
        current.copyFrom(saved);
        return current.relationCount;
    }

    // ---- what the calls demand of their arguments and of the state

    private static void requireRelationArity(int arity) {
        if (arity < 1 || arity > MAX_RELATION_ARITY) {
            throw new IllegalArgumentException("the arity is out of range");
        }
    }

    private static void requireOperationArity(int arity) {
        if (arity < 1 || arity > MAX_OPERATION_ARITY) {
            throw new IllegalArgumentException("the arity is out of range");
        }
    }

    private static void requireOperation(int arity, int code) {
        requireOperationArity(arity);
        if (code < 0 || code > allTuples(arity)) {
            throw new IllegalArgumentException("there is no operation of this arity with this code");
        }
    }

    private static void requireBit(int value) {
        if (value != 0 && value != 1) {
            throw new IllegalArgumentException("a value is neither 0 nor 1");
        }
    }

    private static void requireKind(int kind) {
        if (kind < 0 || kind >= KIND_COUNT) {
            throw new IllegalArgumentException("the kind is out of range");
        }
    }

    private static void requireSlot(int slot) {
        if (slot < 0 || slot >= SLOT_COUNT) {
            throw new IndexOutOfBoundsException("there is no such slot");
        }
    }

    private void requireFlags(int slot) {
        if (flagLengths[slot] == NO_ARRAY) {
            throw new IllegalStateException("the slot is empty");
        }
    }

    private void requireRelation(int relation) {
        if (relation < 0 || relation >= current.relationCount) {
            throw new IndexOutOfBoundsException("there is no such relation");
        }
    }

    private void requireTuple(int relation, int tuple) {
        if (tuple < 0 || tuple > greatestTuple(current.arities[relation])) {
            throw new IllegalArgumentException("there is no such tuple");
        }
    }

    private void requirePosition(int relation, int position) {
        if (position < 0 || position >= current.arities[relation]) {
            throw new IndexOutOfBoundsException("there is no such position");
        }
    }

    private void requireRoomForRelation() {
        if (current.relationCount >= MAX_RELATIONS) {
            throw new IllegalStateException("there are already 8 relations");
        }
    }

    private void requireVariable(int variable) {
        if (variable < 0 || variable >= current.variableCount) {
            throw new IndexOutOfBoundsException("there is no such variable");
        }
    }

    private void requireVariables(int arity, int v0, int v1, int v2, int v3) {
        requireVariable(v0);
        if (arity > 1) {
            requireVariable(v1);
        }
        if (arity > 2) {
            requireVariable(v2);
        }
        if (arity > 3) {
            requireVariable(v3);
        }
    }

    private void requireKindOfLanguage(int kind) {
        if (!isOfKind(kind)) {
            throw new UnsupportedOperationException("the language does not have the kind");
        }
    }

    private void requireSolutions() {
        if (current.countSolutions() == 0) {
            throw new NoSuchElementException("there are no solutions");
        }
    }

    // ---- sets of tuples

    private int addNew(int arity, int tuples) {
        requireRoomForRelation();
        int relation = current.relationCount;
        current.arities[relation] = arity;
        current.tuples[relation] = tuples;
        current.relationCount++;
        return relation;
    }

    private static boolean has(int set, int element) {
        return ((set >>> element) & 1) != 0;
    }

    private static int greatestTuple(int arity) {
        return (1 << arity) - 1;
    }

    private static int allTuples(int arity) {
        return (1 << (1 << arity)) - 1;
    }

    private static int tuplesWithSum(int arity, int sum) {
        int tuples = 0;
        for (int tuple = 0; tuple <= greatestTuple(arity); tuple++) {
            if ((Integer.bitCount(tuple) & 1) == sum) {
                tuples |= 1 << tuple;
            }
        }
        return tuples;
    }

    private static int tuplesWithoutPosition(int tuples, int position) {
        int below = (1 << position) - 1;
        int shortened = 0;
        for (int tuple = 0; tuple < MAX_TUPLES; tuple++) {
            if (has(tuples, tuple)) {
                shortened |= 1 << ((tuple & below) | ((tuple >>> 1) & ~below));
            }
        }
        return shortened;
    }

    private static int tuplesWithExchange(int tuples, int i, int j) {
        int both = (1 << i) | (1 << j);
        int exchanged = 0;
        for (int tuple = 0; tuple < MAX_TUPLES; tuple++) {
            if (has(tuples, tuple)) {
                boolean differ = has(tuple, i) != has(tuple, j);
                exchanged |= 1 << (differ ? tuple ^ both : tuple);
            }
        }
        return exchanged;
    }

    // ---- operations: the arguments are a tuple, too, and a code is the set of the tuples with the value 1; so the
    // greatest code of an arity is the set of all its tuples

    private static int valueFor(int arity, int code, int arguments) {
        return (code >>> (arguments & greatestTuple(arity))) & 1;
    }

    private static int argumentCode(int arity, int argument) {
        return ARGUMENT_CODES[argument] & allTuples(arity);
    }

    /** The values for the tuples in which an argument is 0, each at the bit of its tuple. */
    private static int valuesAtZero(int arity, int code, int argument) {
        return code & ~argumentCode(arity, argument);
    }

    /** The values for the tuples in which an argument is 1, each at the bit of the tuple that has 0 there. */
    private static int valuesAtOne(int arity, int code, int argument) {
        return (code & argumentCode(arity, argument)) >>> (1 << argument);
    }

    /** An operation of two arguments at all positions of two tuples at once. */
    private static int appliedToTwo(int code, int x, int y) {
        return ((code & 1) != 0 ? ~x & ~y : 0)
            | ((code & 2) != 0 ? x & ~y : 0)
            | ((code & 4) != 0 ? ~x & y : 0)
            | ((code & 8) != 0 ? x & y : 0);
    }

    /**
     * Tuples outside of a set that an operation gives for tuples of it: none if it preserves the set, and otherwise at
     * least one. It stops early because most operations fail soon, and all 256 are asked for a count.
     */
    private static int escapingTuples(int tuples, int tupleLength, int arity, int code) {
        if (tuples == allTuples(tupleLength)) {
            return 0;
        }
        int greatest = greatestTuple(tupleLength);
        int seconds = arity >= 2 ? tuples : TUPLE_ZERO_ALONE;
        int thirds = arity >= 3 ? tuples : TUPLE_ZERO_ALONE;
        for (int x = 0; x <= greatest; x++) {
            if (!has(tuples, x)) {
                continue;
            }
            for (int y = 0; y <= greatest; y++) {
                if (!has(seconds, y)) {
                    continue;
                }
                int atZero = appliedToTwo(code, x, y);
                int atOne = appliedToTwo(code >>> 4, x, y);
                int outside = tuplesChosenBy(thirds, atZero, atOne, greatest) & ~tuples;
                if (outside != 0) {
                    return outside;
                }
            }
        }
        return 0;
    }

    /**
     * The tuples that have, for a tuple z of a set, the values of one tuple where z is 0 and of another elsewhere. No
     * loop runs more often than this one, so it calls nothing.
     */
    private static int tuplesChosenBy(int set, int atZero, int atOne, int greatest) {
        int chosen = 0;
        for (int z = 0; z <= greatest; z++) {
            if (((set >>> z) & 1) != 0) {
                chosen |= 1 << (((atZero & ~z) | (atOne & z)) & greatest);
            }
        }
        return chosen;
    }

    private boolean isPreserved(int relation, int arity, int code) {
        return escapingTuples(current.tuples[relation], current.arities[relation], arity, code) == 0;
    }

    private boolean areAllPreserved(int arity, int code) {
        for (int relation = 0; relation < current.relationCount; relation++) {
            if (!isPreserved(relation, arity, code)) {
                return false;
            }
        }
        return true;
    }

    private boolean isOfKind(int kind) {
        return areAllPreserved(KIND_ARITIES[kind], KIND_CODES[kind]);
    }

    /** The variables of the positions, four bits each; those of positions that do not exist are left out. */
    private static int packedVariables(int arity, int v0, int v1, int v2, int v3) {
        int all = v0 | (v1 << 4) | (v2 << 8) | (v3 << 12);
        return all & ((1 << (4 * arity)) - 1);
    }

    // ---- texts

    /** The error position of the input, or NO_POSITION if it is a valid text. */
    private int wrongPosition(int length) {
        int tupleLength = 0;
        int digits = 0;
        for (int i = 0; i < length; i++) {
            char character = input[i];
            if (character == ',' && isWholeTuple(digits, tupleLength)) {
                tupleLength = digits;
                digits = 0;
            } else if (isDigit(character) && digits < (tupleLength == 0 ? MAX_RELATION_ARITY : tupleLength)) {
                digits++;
            } else {
                return i;
            }
        }
        return isWholeTuple(digits, tupleLength) ? NO_POSITION : length;
    }

    /** The first tuple, behind which no length is known yet, may have any number of digits. */
    private static boolean isWholeTuple(int digits, int tupleLength) {
        return tupleLength == 0 ? digits > 0 : digits == tupleLength;
    }

    private static boolean isDigit(char character) {
        return character == '0' || character == '1';
    }

    private int firstTupleLength(int length) {
        int digits = 0;
        while (digits < length && digits < MAX_RELATION_ARITY && input[digits] != ',') {
            digits++;
        }
        return digits;
    }

    /** The tuples of a valid text: they all have the same length, so each starts at a known place. */
    private int readTuples(int arity, int length) {
        int tuples = 0;
        for (int start = 0; start + arity <= length; start += arity + 1) {
            int tuple = 0;
            for (int position = 0; position < arity; position++) {
                if (input[start + position] == '1') {
                    tuple |= 1 << position;
                }
            }
            tuples |= 1 << tuple;
        }
        return tuples;
    }

    private void writeTuple(int arity, int tuple) {
        if (outputLength > 0) {
            writeCharacter(',');
        }
        for (int position = 0; position < arity; position++) {
            writeCharacter(has(tuple, position) ? '1' : '0');
        }
    }

    private void writeCharacter(char character) {
        if (outputLength < MAX_OUTPUT) {
            output[outputLength] = character;
            outputLength++;
        }
    }

    /**
     * What a snapshot keeps: the relations, the number of variables and the constraints.
     *
     * <p>Assignments are looked at 64 at a time: bit b of word w stands for the assignment 64 * w + b, and a set of
     * assignments is asked for word by word, so that no call has to keep one.
     */
    private static final class Instance {
        private static final int VARIABLES_IN_A_WORD = 6;
        private static final int WORD_LENGTH = 64;

        /** For each of the first six variables, the bits of a word that stand for assignments in which it is 1. */
        private static final long[] ONES = {
            0xAAAAAAAAAAAAAAAAL, 0xCCCCCCCCCCCCCCCCL, 0xF0F0F0F0F0F0F0F0L,
            0xFF00FF00FF00FF00L, 0xFFFF0000FFFF0000L, 0xFFFFFFFF00000000L
        };

        private int relationCount = 0;
        private final int[] arities = new int[MAX_RELATIONS];
        private final int[] tuples = new int[MAX_RELATIONS];
        private int variableCount = 1;
        private int constraintCount = 0;
        private final int[] constraintRelations = new int[MAX_CONSTRAINTS];
        /** Four bits for each position, position 0 lowest. */
        private final int[] constraintVariables = new int[MAX_CONSTRAINTS];

        private void copyFrom(Instance other) {
            relationCount = other.relationCount;
            variableCount = other.variableCount;
            constraintCount = other.constraintCount;
            System.arraycopy(other.arities, 0, arities, 0, MAX_RELATIONS);
            System.arraycopy(other.tuples, 0, tuples, 0, MAX_RELATIONS);
            System.arraycopy(other.constraintRelations, 0, constraintRelations, 0, MAX_CONSTRAINTS);
            System.arraycopy(other.constraintVariables, 0, constraintVariables, 0, MAX_CONSTRAINTS);
        }

        private int greatestAssignment() {
            return (1 << variableCount) - 1;
        }

        private int wordCount() {
            return variableCount <= VARIABLES_IN_A_WORD ? 1 : 1 << (variableCount - VARIABLES_IN_A_WORD);
        }

        private long assignmentsOfAWord() {
            return variableCount >= VARIABLES_IN_A_WORD ? -1L : (1L << (1 << variableCount)) - 1L;
        }

        private static int variableAt(int variables, int position) {
            return (variables >>> (4 * position)) & 15;
        }

        private static long assignmentsWithOne(int variable, int word) {
            if (variable < VARIABLES_IN_A_WORD) {
                return ONES[variable];
            }
            return has(word, variable - VARIABLES_IN_A_WORD) ? -1L : 0L;
        }

        private static long assignmentsWith(int variable, int value, int word) {
            long ones = assignmentsWithOne(variable, word);
            return value == 1 ? ones : ~ones;
        }

        /**
         * The assignments of a word that give the variables a tuple of a set. It splits the set by the value at the
         * highest position; the arity, at most 4, falls with each level.
         */
        private static long assignmentsInto(int tuples, int arity, int variables, int word) {
            if (tuples == 0) {
                return 0L;
            }
            if (arity <= 0 || tuples == allTuples(arity)) {
                return -1L;
            }
            int top = arity - 1;
            long ones = assignmentsWithOne(variableAt(variables, top), word);
            long forZero = assignmentsInto(tuples & allTuples(top), top, variables, word);
            long forOne = assignmentsInto(tuples >>> (1 << top), top, variables, word);
            return (forZero & ~ones) | (forOne & ones);
        }

        private long satisfying(int constraint, int word) {
            int relation = constraintRelations[constraint];
            return assignmentsInto(tuples[relation], arities[relation], constraintVariables[constraint], word);
        }

        /** The assignments of a word that satisfy all constraints but those of a set. */
        private long solutionsIn(int word, int leftOut) {
            long solutions = assignmentsOfAWord();
            for (int constraint = 0; constraint < constraintCount && solutions != 0L; constraint++) {
                if (!has(leftOut, constraint)) {
                    solutions &= satisfying(constraint, word);
                }
            }
            return solutions;
        }

        private int countSolutions() {
            int count = 0;
            for (int word = 0; word < wordCount(); word++) {
                count += Long.bitCount(solutionsIn(word, 0));
            }
            return count;
        }

        /** The solution with a number, or -1 if there is none. */
        private int findSolution(int index) {
            int before = 0;
            for (int word = 0; word < wordCount() && index >= 0; word++) {
                long solutions = solutionsIn(word, 0);
                int count = Long.bitCount(solutions);
                if (index - before < count) {
                    return word * WORD_LENGTH + placeOfBit(solutions, index - before);
                }
                before += count;
            }
            return -1;
        }

        private static int placeOfBit(long set, int index) {
            long rest = set;
            for (int i = 0; i < index; i++) {
                rest &= rest - 1L;
            }
            return Long.bitCount((rest & -rest) - 1L);
        }

        /** The set of the variables that have a value in some solution. */
        private int variablesThatTake(int value) {
            int variables = 0;
            for (int word = 0; word < wordCount(); word++) {
                long solutions = solutionsIn(word, 0);
                for (int variable = 0; variable < variableCount; variable++) {
                    if ((solutions & assignmentsWith(variable, value, word)) != 0L) {
                        variables |= 1 << variable;
                    }
                }
            }
            return variables;
        }

        private boolean hasSolutionWith(int variable, int value, int other, int otherValue) {
            for (int word = 0; word < wordCount(); word++) {
                long both = assignmentsWith(variable, value, word) & assignmentsWith(other, otherValue, word);
                if ((solutionsIn(word, 0) & both) != 0L) {
                    return true;
                }
            }
            return false;
        }

        /** The tuples that the solutions give some variables. */
        private int tuplesOfSolutions(int arity, int variables) {
            int found = 0;
            for (int word = 0; word < wordCount(); word++) {
                long solutions = solutionsIn(word, 0);
                for (int tuple = 0; tuple <= greatestTuple(arity); tuple++) {
                    if ((solutions & assignmentsInto(1 << tuple, arity, variables, word)) != 0L) {
                        found |= 1 << tuple;
                    }
                }
            }
            return found;
        }

        private boolean isSatisfied(int constraint, int assignment) {
            int relation = constraintRelations[constraint];
            int tuple = 0;
            for (int position = 0; position < arities[relation]; position++) {
                if (has(assignment, variableAt(constraintVariables[constraint], position))) {
                    tuple |= 1 << position;
                }
            }
            return has(tuples[relation], tuple);
        }

        /** Whether a constraint follows from the others but those of a set. */
        private boolean isSpare(int constraint, int leftOut) {
            for (int word = 0; word < wordCount(); word++) {
                long others = solutionsIn(word, leftOut | (1 << constraint));
                if ((others & ~satisfying(constraint, word)) != 0L) {
                    return false;
                }
            }
            return true;
        }

        private void removeConstraints(int removed) {
            int kept = 0;
            for (int constraint = 0; constraint < constraintCount; constraint++) {
                if (!has(removed, constraint)) {
                    constraintRelations[kept] = constraintRelations[constraint];
                    constraintVariables[kept] = constraintVariables[constraint];
                    kept++;
                }
            }
            constraintCount = kept;
        }
    }
}
