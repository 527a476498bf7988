/** Promises 32 to 45: instances. */
public final class InstancesTest {
    private static final Check CHECK = new Check("InstancesTest");
    private static final Class<IllegalArgumentException> ARGUMENT = IllegalArgumentException.class;
    private static final Class<IllegalStateException> STATE = IllegalStateException.class;
    private static final Class<IndexOutOfBoundsException> INDEX = IndexOutOfBoundsException.class;
    private static final Class<UnsupportedOperationException> KIND = UnsupportedOperationException.class;
    private static final Class<java.util.NoSuchElementException> NONE = java.util.NoSuchElementException.class;
    private static final int[] NO_BITS = {-1, 2, Integer.MIN_VALUE, Integer.MAX_VALUE};

    public static void main(String[] args) {
        setVariables();
        addConstraint();
        addConstraintPositions();
        removeLastConstraint();
        solutionCount();
        solution();
        isForced();
        leastSolution();
        greatestSolution();
        implies();
        impliesRefused();
        dimension();
        define();
        defineRefused();
        firstViolated();
        isRedundant();
        removeRedundant();
        CHECK.end();
    }

    private static void solutionsAre(String what, BooleanConstraints x, int... due) {
        CHECK.equal(what + ": count", x.solutionCount(), due.length);
        for (int i = 0; i < due.length; i++) {
            CHECK.equal(what + ": solution " + i, x.solution(i), due[i]);
        }
        CHECK.fails(what + ": behind the last", NONE, () -> x.solution(due.length));
    }

    private static void setVariables() {
        BooleanConstraints x = new BooleanConstraints();
        for (int count = 1; count <= 10; count++) {
            CHECK.equal("32: none removed", x.setVariables(count), 0);
            CHECK.equal("32: solutions", x.solutionCount(), 1 << count);
        }
        x.addClause(2, 0);
        x.addConstraint(0, 8, 9, 0, 0);
        x.addConstraint(0, 1, 2, 0, 0);
        CHECK.equal("32: removed with the same number", x.setVariables(10), 2);
        CHECK.equal("32: no constraints", x.solutionCount(), 1024);
        CHECK.equal("32: the relations stay", x.relationCount(), 1);
        x.addConstraint(0, 8, 9, 0, 0);
        CHECK.equal("32: removed", x.setVariables(3), 1);
        CHECK.fails("32: fewer variables", INDEX, () -> x.addConstraint(0, 3, 0, 0, 0));
        for (int wrong : new int[] {0, 11, -1, Integer.MIN_VALUE, Integer.MAX_VALUE}) {
            CHECK.refuses(Given.SOME, "32: count", ARGUMENT, y -> y.setVariables(wrong));
        }
    }

    private static BooleanConstraints twentyConstraints() {
        BooleanConstraints x = Given.withVariables(3);
        x.addParity(3, 1);
        x.addRelation(1);
        for (int i = 0; i < 20; i++) {
            x.addConstraint(0, i % 3, 1, 2, 0);
        }
        return x;
    }

    private static BooleanConstraints relationOfEachArity() {
        BooleanConstraints x = Given.withVariables(3);
        for (int arity = 1; arity <= 4; arity++) {
            x.addRelation(arity);
        }
        return x;
    }

    private static void addConstraint() {
        BooleanConstraints numbered = oddOfThree();
        for (int number = 1; number < 20; number++) {
            CHECK.equal("33: number", numbered.addConstraint(0, number % 3, 1, 2, 0), number);
        }
        Whole.Start twenty = InstancesTest::twentyConstraints;
        CHECK.refuses(twenty, "33: a constraint more", STATE, x -> x.addConstraint(0, 0, 1, 2, 0));
        CHECK.refuses(twenty, "33: variable before room", INDEX, x -> x.addConstraint(0, 0, 1, 3, 0));
        CHECK.refuses(twenty, "33: relation before room", INDEX, x -> x.addConstraint(2, 0, 1, 2, 0));
        Whole.Start each = InstancesTest::relationOfEachArity;
        CHECK.refuses(each, "33: relation", INDEX, x -> x.addConstraint(4, 0, 0, 0, 0));
        CHECK.refuses(each, "33: relation", INDEX, x -> x.addConstraint(-1, 0, 0, 0, 0));
        for (int arity = 1; arity <= 4; arity++) {
            for (int position = 0; position < 4; position++) {
                for (int wrong : new int[] {3, -1, 16, Integer.MIN_VALUE, Integer.MAX_VALUE}) {
                    int[] v = {0, 1, 2, 0};
                    v[position] = wrong;
                    final int relation = arity - 1;
                    Whole.Act act = x -> x.addConstraint(relation, v[0], v[1], v[2], v[3]);
                    if (position < arity) {
                        CHECK.refuses(each, "33: variable " + position, INDEX, act);
                    } else {
                        CHECK.equal("33: ignored", act.on(each.make()), 0);
                    }
                }
            }
        }
    }

    /** Each position goes to its own variable, also to those beyond the sixth and to the same one twice. */
    private static void addConstraintPositions() {
        int[][] choices = {{0, 1, 2, 3}, {9, 8, 7, 6}, {3, 9, 0, 5}, {7, 7, 2, 2}, {4, 4, 4, 4}, {6, 0, 6, 9}};
        for (int[] v : choices) {
            for (int tuple = 0; tuple < 16; tuple++) {
                onlyTuple(v, tuple);
            }
        }
        BooleanConstraints x = Given.withVariables(2);
        Given.relation(x, 1, 1);
        x.addConstraint(0, 0, 1, 1, 1);
        solutionsAre("33: ignored variables", x, 1, 3);
    }

    private static void onlyTuple(int[] v, int tuple) {
        BooleanConstraints x = null;
        int index = 0;
        for (int assignment = 0; assignment < 1024; assignment++) {
            if (assignment % 256 == 0) {
                x = Given.withVariables(10);
                Given.relation(x, 4, tuple);
                x.addConstraint(0, v[0], v[1], v[2], v[3]);
            }
            int given = (assignment >> v[0] & 1) + 2 * (assignment >> v[1] & 1)
                + 4 * (assignment >> v[2] & 1) + 8 * (assignment >> v[3] & 1);
            if (given == tuple) {
                CHECK.equal("33: solution " + index, x.solution(index), assignment);
                index++;
            }
        }
        CHECK.equal("33: solutions", x.solutionCount(), index);
    }

    private static void removeLastConstraint() {
        BooleanConstraints x = Given.withVariables(2);
        Given.relation(x, 1, 1);
        x.addConstraint(0, 0, 0, 0, 0);
        x.addConstraint(0, 1, 0, 0, 0);
        CHECK.equal("34: one remains", x.removeLastConstraint(), 1);
        solutionsAre("34: the last one", x, 1, 3);
        CHECK.equal("34: none remains", x.removeLastConstraint(), 0);
        solutionsAre("34: all", x, 0, 1, 2, 3);
        CHECK.fails("34: none", STATE, x::removeLastConstraint);
        CHECK.equal("34: the number is free again", x.addConstraint(0, 0, 0, 0, 0), 0);
        CHECK.refuses(Given.NEW, "34: none", STATE, BooleanConstraints::removeLastConstraint);
        CHECK.refuses(InstancesTest::relationOfEachArity, "34: none", STATE, BooleanConstraints::removeLastConstraint);
    }

    private static void solutionCount() {
        BooleanConstraints x = Given.withVariables(10);
        CHECK.equal("35: all", x.solutionCount(), 1024);
        x.addClause(4, 0);
        x.addConstraint(0, 0, 3, 6, 9);
        CHECK.equal("35: a clause", x.solutionCount(), 1024 - 64);
        x.addTuple(0, 0);
        CHECK.equal("35: the relation as it is now", x.solutionCount(), 1024);
        for (int tuple = 0; tuple < 16; tuple++) {
            x.removeTuple(0, tuple);
        }
        CHECK.equal("35: none", x.solutionCount(), 0);
        BooleanConstraints y = Given.withVariables(5);
        y.addParity(2, 1);
        y.addConstraint(0, 4, 4, 0, 0);
        CHECK.equal("35: a variable is not its opposite", y.solutionCount(), 0);
    }

    private static BooleanConstraints oddOfThree() {
        BooleanConstraints x = Given.withVariables(3);
        x.addParity(3, 1);
        x.addConstraint(0, 0, 1, 2, 0);
        return x;
    }

    private static void solution() {
        solutionsAre("36: odd", oddOfThree(), 1, 2, 4, 7);
        for (int wrong : new int[] {-1, 4, 8, Integer.MIN_VALUE, Integer.MAX_VALUE}) {
            CHECK.refuses(InstancesTest::oddOfThree, "36: index", NONE, x -> x.solution(wrong));
        }
        for (int first = 0; first < 1024; first += 256) {
            BooleanConstraints all = Given.withVariables(10);
            for (int i = first; i < first + 256; i++) {
                CHECK.equal("36: all", all.solution(i), i);
            }
            CHECK.fails("36: behind all", NONE, () -> all.solution(1024));
        }
        for (int first = 0; first < 512; first += 256) {
            BooleanConstraints half = upperHalf();
            for (int i = first; i < first + 256; i++) {
                CHECK.equal("36: the upper half", half.solution(i), 512 + i);
            }
            CHECK.fails("36: behind the upper half", NONE, () -> half.solution(512));
        }
        BooleanConstraints none = upperHalf();
        none.addRelation(1);
        none.addConstraint(1, 0, 0, 0, 0);
        solutionsAre("36: none", none);
    }

    private static BooleanConstraints upperHalf() {
        BooleanConstraints x = Given.withVariables(10);
        x.addParity(1, 1);
        x.addConstraint(0, 9, 0, 0, 0);
        return x;
    }

    /** Variable 7 has the value 1, and variable 2 the other one. */
    private static BooleanConstraints twoForced() {
        BooleanConstraints x = Given.withVariables(8);
        Given.relation(x, 1, 1);
        Given.relation(x, 2, 0b01, 0b10);
        x.addConstraint(0, 7, 0, 0, 0);
        x.addConstraint(1, 7, 2, 0, 0);
        return x;
    }

    private static BooleanConstraints allForced() {
        BooleanConstraints x = twoForced();
        x.addConstraint(0, 2, 0, 0, 0);
        return x;
    }

    private static void isForced() {
        BooleanConstraints x = twoForced();
        for (int variable = 0; variable < 8; variable++) {
            CHECK.equal("37: 1 at " + variable, x.isForced(variable, 1), variable == 7);
            CHECK.equal("37: 0 at " + variable, x.isForced(variable, 0), variable == 2);
        }
        x.setVariables(1);
        x.addConstraint(0, 0, 0, 0, 0);
        CHECK.isTrue("37: the only variable", x.isForced(0, 1) && !x.isForced(0, 0));
        CHECK.isTrue("37: no solutions", allForced().isForced(5, 0) && allForced().isForced(5, 1));
        for (Whole.Start start : new Whole.Start[] {InstancesTest::twoForced, InstancesTest::allForced}) {
            CHECK.refuses(start, "37: variable", INDEX, y -> y.isForced(8, 0));
            CHECK.refuses(start, "37: variable", INDEX, y -> y.isForced(-1, 0));
            for (int wrong : NO_BITS) {
                CHECK.refuses(start, "37: value", ARGUMENT, y -> y.isForced(0, wrong));
                CHECK.refuses(start, "37: variable before value", INDEX, y -> y.isForced(8, wrong));
            }
        }
    }

    /** Variable 6 leads to 1 and this one to 3: of kinds 2 and 3, and relation 1 has the given tuple alone. */
    private static BooleanConstraints chain(int tuple) {
        BooleanConstraints x = Given.withVariables(7);
        x.addClause(2, 0b01);
        Given.relation(x, 1, tuple);
        x.addConstraint(0, 6, 1, 0, 0);
        x.addConstraint(0, 1, 3, 0, 0);
        return x;
    }

    private static BooleanConstraints withoutSolutions(BooleanConstraints x) {
        int nothing = x.addRelation(1);
        x.addConstraint(nothing, 0, 0, 0, 0);
        return x;
    }

    private static BooleanConstraints withClause(BooleanConstraints x, int signs) {
        x.addClause(2, signs);
        return x;
    }

    private static void leastSolution() {
        CHECK.equal("38: no relations", Given.withVariables(7).leastSolution(), 0);
        BooleanConstraints x = chain(1);
        CHECK.equal("38: nothing is forced", x.leastSolution(), 0);
        x.addConstraint(1, 6, 0, 0, 0);
        CHECK.equal("38: forced", x.leastSolution(), 0b1001010);
        Whole.Act least = BooleanConstraints::leastSolution;
        CHECK.refuses(() -> withoutSolutions(chain(1)), "38: no solutions", NONE, least);
        CHECK.refuses(() -> withClause(withoutSolutions(chain(1)), 0), "38: kind before solutions", KIND, least);
        CHECK.refuses(() -> withClause(chain(1), 0), "38: kind", KIND, least);
    }

    private static void greatestSolution() {
        CHECK.equal("39: no relations", Given.withVariables(7).greatestSolution(), 127);
        BooleanConstraints x = chain(0);
        CHECK.equal("39: nothing is forced", x.greatestSolution(), 127);
        x.addConstraint(1, 3, 0, 0, 0);
        CHECK.equal("39: forced", x.greatestSolution(), 0b0110101);
        Whole.Act greatest = BooleanConstraints::greatestSolution;
        CHECK.refuses(() -> withoutSolutions(chain(0)), "39: no solutions", NONE, greatest);
        CHECK.refuses(() -> withClause(withoutSolutions(chain(0)), 3), "39: kind before solutions", KIND, greatest);
        CHECK.refuses(() -> withClause(chain(0), 3), "39: kind", KIND, greatest);
    }

    /** Not both of 0 and 7, and one of 7 and 6. */
    private static BooleanConstraints twoClauses() {
        BooleanConstraints x = Given.withVariables(8);
        x.addClause(2, 0b11);
        x.addClause(2, 0b00);
        x.addConstraint(0, 0, 7, 0, 0);
        x.addConstraint(1, 7, 6, 0, 0);
        return x;
    }

    private static void implies() {
        BooleanConstraints x = twoClauses();
        CHECK.isTrue("40: one step", x.implies(0, 1, 7, 0));
        CHECK.isTrue("40: two steps", x.implies(0, 1, 6, 1));
        CHECK.isTrue("40: back", x.implies(6, 0, 0, 0));
        CHECK.isFalse("40: the other value", x.implies(0, 0, 6, 1));
        CHECK.isFalse("40: the other way", x.implies(6, 1, 0, 1));
        CHECK.isTrue("40: itself", x.implies(3, 1, 3, 1) && x.implies(3, 0, 3, 0));
        CHECK.isFalse("40: its opposite", x.implies(3, 1, 3, 0));
        x.addConstraint(0, 3, 3, 0, 0);
        CHECK.isTrue("40: no solution with the value", x.implies(3, 1, 5, 0) && x.implies(3, 1, 5, 1));
        x.addConstraint(1, 3, 3, 0, 0);
        CHECK.isTrue("40: no solutions", x.implies(4, 0, 5, 0) && x.implies(4, 0, 5, 1));
        x.setVariables(2);
        x.addConstraint(0, 0, 1, 0, 0);
        CHECK.isTrue("40: few variables", x.implies(1, 1, 0, 0) && !x.implies(1, 0, 0, 0));
    }

    private static void impliesRefused() {
        Whole.Start start = InstancesTest::twoClauses;
        CHECK.refuses(start, "40: variable", INDEX, x -> x.implies(8, 0, 0, 0));
        CHECK.refuses(start, "40: other", INDEX, x -> x.implies(0, 0, 8, 0));
        CHECK.refuses(start, "40: variable", INDEX, x -> x.implies(-1, 0, 0, 0));
        CHECK.refuses(start, "40: other", INDEX, x -> x.implies(0, 0, -1, 0));
        for (int wrong : NO_BITS) {
            CHECK.refuses(start, "40: value", ARGUMENT, x -> x.implies(0, wrong, 0, 0));
            CHECK.refuses(start, "40: otherValue", ARGUMENT, x -> x.implies(0, 0, 0, wrong));
            CHECK.refuses(start, "40: other before value", INDEX, x -> x.implies(0, wrong, 8, 0));
        }
        Whole.Start hard = () -> {
            BooleanConstraints x = twoClauses();
            x.addClause(3, 0);
            return x;
        };
        CHECK.refuses(hard, "40: kind", KIND, x -> x.implies(0, 1, 7, 0));
        CHECK.refuses(hard, "40: kind before variable", KIND, x -> x.implies(8, 2, -1, 2));
    }

    /** All variables have the value 1. */
    private static BooleanConstraints allOnes(int count) {
        BooleanConstraints x = Given.withVariables(count);
        x.addParity(1, 1);
        for (int variable = 0; variable < count; variable++) {
            x.addConstraint(0, variable, 0, 0, 0);
        }
        return x;
    }

    private static BooleanConstraints contradiction(int count) {
        BooleanConstraints x = allOnes(count);
        x.addParity(1, 0);
        x.addConstraint(1, 0, 0, 0, 0);
        return x;
    }

    private static void dimension() {
        Whole.Act dimension = BooleanConstraints::dimension;
        for (int i = 1; i <= 10; i++) {
            final int count = i;
            CHECK.equal("41: all", Given.withVariables(count).dimension(), count);
            BooleanConstraints x = allOnes(count);
            CHECK.equal("41: one solution", x.dimension(), 0);
            for (int variable = 0; variable < count; variable++) {
                x.removeLastConstraint();
                CHECK.equal("41: a variable more", x.dimension(), variable + 1);
            }
            CHECK.refuses(() -> contradiction(count), "41: no solutions", NONE, dimension);
            CHECK.refuses(() -> withClause(contradiction(count), 0), "41: kind before solutions", KIND, dimension);
            CHECK.refuses(() -> withClause(allOnes(count), 0), "41: kind", KIND, dimension);
        }
    }

    /** Variables 0 and 3 are equal, and 7 is the opposite of both. */
    private static BooleanConstraints opposites() {
        BooleanConstraints x = Given.withVariables(8);
        x.addParity(2, 1);
        x.addConstraint(0, 0, 7, 0, 0);
        x.addConstraint(0, 7, 3, 0, 0);
        return x;
    }

    private static void define() {
        BooleanConstraints x = opposites();
        CHECK.equal("42: number", x.define(2, 0, 3, -1, 99), 1);
        CHECK.equal("42: arity", x.arity(1), 2);
        CHECK.equal("42: equal", Whole.tuples(x, 1), 0b1001);
        CHECK.equal("42: a variable twice", Whole.tuples(x, x.define(3, 7, 0, 7, 8)), 1 << 0b010 | 1 << 0b101);
        CHECK.equal("42: free and bound", Whole.tuples(x, x.define(4, 1, 0, 7, 3)),
            1 << 0b0100 | 1 << 0b0101 | 1 << 0b1010 | 1 << 0b1011);
        CHECK.equal("42: arity 1", Whole.tuples(x, x.define(1, 7, 8, 8, 8)), 0b11);
        x.addRelation(1);
        x.addConstraint(5, 1, 0, 0, 0);
        CHECK.equal("42: no solutions", Whole.tuples(x, x.define(4, 1, 0, 7, 3)), 0);
        x.setVariables(2);
        CHECK.equal("42: no constraints", Whole.tuples(x, x.define(2, 0, 1, 0, 0)), 0b1111);
        BooleanConstraints y = Given.withVariables(3);
        CHECK.equal("42: without constraints a variable twice", Whole.tuples(y, y.define(2, 2, 2, 0, 0)), 0b1001);
    }

    private static void defineRefused() {
        Whole.Start start = InstancesTest::opposites;
        for (int wrong : new int[] {0, 5, -1, 32, Integer.MIN_VALUE, Integer.MAX_VALUE}) {
            CHECK.refuses(start, "42: arity", ARGUMENT, x -> x.define(wrong, 0, 0, 0, 0));
            CHECK.refuses(start, "42: arity before variables", ARGUMENT, x -> x.define(wrong, 8, 8, 8, 8));
        }
        for (int arity = 1; arity <= 4; arity++) {
            for (int position = 0; position < arity; position++) {
                for (int wrong : new int[] {8, -1, Integer.MIN_VALUE, Integer.MAX_VALUE}) {
                    int[] v = {0, 0, 0, 0};
                    v[position] = wrong;
                    final int asked = arity;
                    CHECK.refuses(start, "42: variable", INDEX, x -> x.define(asked, v[0], v[1], v[2], v[3]));
                }
            }
        }
        Whole.Start eight = () -> Given.numbered(8, 2);
        CHECK.refuses(eight, "42: a ninth", STATE, x -> x.define(1, 0, 0, 0, 0));
        CHECK.refuses(eight, "42: variable before room", INDEX, x -> x.define(1, 1, 0, 0, 0));
        CHECK.refuses(eight, "42: arity before room", ARGUMENT, x -> x.define(0, 0, 0, 0, 0));
    }

    private static BooleanConstraints threeConstraints() {
        BooleanConstraints x = Given.withVariables(7);
        Given.relation(x, 1, 1);
        x.addClause(2, 0b11);
        x.addConstraint(0, 6, 0, 0, 0);
        x.addConstraint(1, 6, 0, 0, 0);
        x.addConstraint(0, 1, 0, 0, 0);
        return x;
    }

    private static void firstViolated() {
        BooleanConstraints x = threeConstraints();
        CHECK.equal("43: the first", x.firstViolated(0), 0);
        CHECK.equal("43: the second", x.firstViolated(0b1000001), 1);
        CHECK.equal("43: the third", x.firstViolated(0b1000000), 2);
        CHECK.fails("43: a solution", NONE, () -> x.firstViolated(0b1000010));
        x.removeTuple(1, 0b01);
        CHECK.equal("43: the relation as it is now", x.firstViolated(0b1000010), 1);
        Whole.Start start = InstancesTest::threeConstraints;
        CHECK.refuses(start, "43: a solution", NONE, y -> y.firstViolated(0b1000010));
        for (int wrong : new int[] {-1, 128, Integer.MIN_VALUE, Integer.MAX_VALUE}) {
            CHECK.refuses(start, "43: assignment", ARGUMENT, y -> y.firstViolated(wrong));
        }
        Whole.Start fewer = () -> {
            BooleanConstraints y = threeConstraints();
            y.setVariables(6);
            return y;
        };
        CHECK.refuses(fewer, "43: fewer assignments", ARGUMENT, y -> y.firstViolated(64));
        CHECK.refuses(fewer, "43: no constraints", NONE, y -> y.firstViolated(63));
    }

    /** Three constraints of which each follows from the two others, and one more. */
    private static BooleanConstraints triangle() {
        BooleanConstraints x = Given.withVariables(9);
        x.addParity(2, 0);
        Given.relation(x, 1, 1);
        x.addConstraint(0, 0, 8, 0, 0);
        x.addConstraint(0, 8, 4, 0, 0);
        x.addConstraint(0, 0, 4, 0, 0);
        x.addConstraint(1, 7, 0, 0, 0);
        return x;
    }

    private static void isRedundant() {
        BooleanConstraints x = triangle();
        for (int constraint = 0; constraint < 4; constraint++) {
            CHECK.equal("44: " + constraint, x.isRedundant(constraint), constraint < 3);
        }
        int nothing = x.addRelation(1);
        x.addConstraint(nothing, 0, 0, 0, 0);
        CHECK.isTrue("44: no solutions without it, either", x.isRedundant(3));
        CHECK.isFalse("44: solutions without it", x.isRedundant(4));
        x.addConstraint(nothing, 1, 0, 0, 0);
        CHECK.isTrue("44: another one leaves none", x.isRedundant(4) && x.isRedundant(5));
        x.setVariables(1);
        CHECK.fails("44: no constraints", INDEX, () -> x.isRedundant(0));
        x.addComplement(nothing);
        x.addConstraint(3, 0, 0, 0, 0);
        CHECK.isTrue("44: all tuples", x.isRedundant(0));
        for (int wrong : new int[] {-1, 4, 20, 32, Integer.MIN_VALUE, Integer.MAX_VALUE}) {
            CHECK.refuses(InstancesTest::triangle, "44: constraint", INDEX, y -> y.isRedundant(wrong));
        }
        CHECK.refuses(Given.NEW, "44: no constraints", INDEX, y -> y.isRedundant(0));
    }

    private static void removeRedundant() {
        BooleanConstraints x = Given.withVariables(9);
        x.addParity(2, 0);
        Given.relation(x, 1, 1);
        x.addConstraint(0, 0, 8, 0, 0);
        x.addConstraint(1, 7, 0, 0, 0);
        x.addConstraint(0, 8, 4, 0, 0);
        x.addConstraint(0, 0, 4, 0, 0);
        x.addConstraint(1, 7, 0, 0, 0);
        x.addConstraint(1, 5, 0, 0, 0);
        int before = x.solutionCount();
        CHECK.equal("45: removed", x.removeRedundant(), 2);
        CHECK.equal("45: the same solutions", x.solutionCount(), before);
        // The higher numbers went first, so 0, 1, 2 and 5 are left and are 0 to 3 now.
        CHECK.equal("45: 0", x.firstViolated(0b010100001), 0);
        CHECK.equal("45: 1", x.firstViolated(0b000100000), 1);
        CHECK.equal("45: 2", x.firstViolated(0b110100001), 2);
        CHECK.equal("45: 5", x.firstViolated(0b010000000), 3);
        CHECK.equal("45: again", x.removeRedundant(), 0);
        CHECK.equal("45: left", x.removeLastConstraint(), 3);
        int nothing = x.addRelation(1);
        x.addConstraint(nothing, 0, 0, 0, 0);
        x.addConstraint(0, 2, 3, 0, 0);
        CHECK.equal("45: one leaves no solutions", x.removeRedundant(), 4);
        CHECK.equal("45: no solutions still", x.solutionCount(), 0);
        x.setVariables(2);
        CHECK.equal("45: no constraints", x.removeRedundant(), 0);
        for (int i = 0; i < 20; i++) {
            x.addConstraint(0, 0, 1, 0, 0);
        }
        CHECK.equal("45: all but one", x.removeRedundant(), 19);
        CHECK.equal("45: one is left", x.removeLastConstraint(), 0);
    }
}
