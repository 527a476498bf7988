/** The sentences of the promises 32 to 45: instances. */
final class InstanceSentences extends Sentences {
    private static final String BIT = "Throws `IllegalArgumentException` if value is neither 0 nor 1";
    private static final String EIGHT = "Throws `IllegalStateException` if there are already 8 relations";
    private static final String NO_SOLUTIONS = "Throws `NoSuchElementException` if there are no solutions";
    private static final String VALUE_LINE = "- `value`: the value, 0 or 1";

    /** Ten variables, and no relation that is not of all kinds: number 0 has arity 1 and no tuples. */
    private static final Whole.Start TEN = () -> {
        BooleanConstraints x = Given.withVariables(10);
        x.addRelation(1);
        return x;
    };
    /** Three variables and relations of the arities 1 to 4. */
    private static final Whole.Start THREE = () -> {
        BooleanConstraints x = Given.withVariables(3);
        for (int arity = 1; arity <= 4; arity++) {
            x.addParity(arity, 0);
        }
        return x;
    };
    /** Two variables, each of which is 1 and is 0. */
    private static final Whole.Start NO_SOLUTION = () -> {
        BooleanConstraints x = Given.withVariables(2);
        x.addParity(1, 1);
        x.addParity(1, 0);
        for (int variable = 0; variable < 2; variable++) {
            x.addConstraint(0, variable, 0, 0, 0);
            x.addConstraint(1, variable, 0, 0, 0);
        }
        return x;
    };

    private interface VariablesAct {
        Object on(BooleanConstraints x, int arity, int[] v);
    }

    InstanceSentences(Check check) {
        super(check);
    }

    @Override
    void run() {
        setVariables();
        addConstraint();
        addConstraintRefused();
        removeLastConstraint();
        solutionCount();
        solution();
        isForced();
        leastSolution();
        greatestSolution();
        implies();
        impliesRefused();
        dimension();
        define();
        defineRefused();
        firstViolated();
        isRedundant();
        removeRedundant();
    }

    private void solutionsAre(BooleanConstraints x, int... due) {
        equal(x.solutionCount(), due.length);
        for (int index = 0; index < due.length; index++) {
            equal(x.solution(index), due[index]);
        }
        fails(NONE, () -> x.solution(due.length));
    }

    private static BooleanConstraints withConstraints(int count) {
        BooleanConstraints x = Given.withVariables(10);
        x.addParity(1, 1);
        for (int i = 0; i < count; i++) {
            x.addConstraint(0, i % 10, 0, 0, 0);
        }
        return x;
    }

    private void setVariables() {
        promise(32);
        says("Sets the number of variables and removes all constraints.", () -> {
            for (int count = 1; count <= 10; count++) {
                for (Whole.Start start : new Whole.Start[] {Given.NEW, Given.SOME, Given.FULL}) {
                    BooleanConstraints x = start.make();
                    x.setVariables(count);
                    equal(Whole.variables(x), count);
                    equal(x.solutionCount(), 1 << count);
                    fails(INDEX, () -> x.isRedundant(0));
                    fails(STATE, x::removeLastConstraint);
                }
            }
            changesOnly(Given.SOME, x -> x.setVariables(10), "instance");
            changesOnly(Given.FULL, x -> x.setVariables(1), "instance");
        });
        says("- `count`: the number of variables, 1 to 10", () -> {
            takes(1, 10, Given.NEW, ARGUMENT, BooleanConstraints::setVariables);
            takes(1, 10, Given.FULL, ARGUMENT, BooleanConstraints::setVariables);
        });
        says("Returns the number of constraints that were removed.", () -> {
            for (int count = 0; count <= 20; count++) {
                BooleanConstraints x = withConstraints(count);
                equal(x.setVariables(count % 10 + 1), count);
                equal(x.setVariables(10), 0);
            }
            equal(Given.some().setVariables(5), 4);
        });
        says("Throws `IllegalArgumentException` if count is out of range", () -> {
            takesNone(outside(1, 10), Given.NEW, ARGUMENT, BooleanConstraints::setVariables);
            takesNone(outside(1, 10), Given.SOME, ARGUMENT, BooleanConstraints::setVariables);
            takesNone(outside(1, 10), Given.FULL, ARGUMENT, BooleanConstraints::setVariables);
        });
    }

    /** The variable of one position is looked at, each from 0 to n - 1, if the relation has the position. */
    private void takesVariables(int position, VariablesAct act) {
        for (int arity = 1; arity <= 4; arity++) {
            final int asked = arity;
            for (Whole.Start start : new Whole.Start[] {THREE, Given.SOME}) {
                int most = start == THREE ? 2 : 4;
                if (position < arity) {
                    takes(0, most, start, INDEX, (x, n) -> act.on(x, asked, withOne(position, n)));
                } else {
                    for (int ignored : outside(0, most)) {
                        BooleanConstraints x = start.make();
                        equal(act.on(x, asked, withOne(position, ignored)), act.on(start.make(), asked, new int[4]));
                    }
                }
            }
        }
    }

    private static int[] withOne(int position, int variable) {
        int[] v = new int[4];
        v[position] = variable;
        return v;
    }

    private static Object constrain(BooleanConstraints x, int arity, int[] v) {
        return x.addConstraint(arity - 1, v[0], v[1], v[2], v[3]);
    }

    private static Object defineOn(BooleanConstraints x, int arity, int[] v) {
        return x.define(arity, v[0], v[1], v[2], v[3]);
    }

    /** A constraint whose only tuple has a 1 at one position, on different variables. */
    private void positionIsItsVariable(int position) {
        for (int arity = position + 1; arity <= 4; arity++) {
            for (int variable = 0; variable < 10; variable++) {
                int[] v = {(variable + 1) % 10, (variable + 2) % 10, (variable + 3) % 10, (variable + 4) % 10};
                v[position] = variable;
                BooleanConstraints x = Given.withVariables(10);
                Given.relation(x, arity, 1 << position);
                x.addConstraint(0, v[0], v[1], v[2], v[3]);
                for (int other = 0; other < 10; other++) {
                    equal(x.isForced(other, 1), other == variable);
                }
                equal(x.solutionCount(), 1 << 10 - arity);
            }
        }
    }

    private void addConstraint() {
        promise(33);
        says("Adds a constraint.", () -> {
            BooleanConstraints x = Given.withVariables(2);
            Given.relation(x, 2, 0b01);
            x.addConstraint(0, 0, 1, 0, 0);
            solutionsAre(x, 0b01);
            x.setVariables(2);
            x.addConstraint(0, 1, 0, 0, 0);
            solutionsAre(x, 0b10);
            x.addConstraint(0, 0, 1, 0, 0);
            solutionsAre(x);
            changesOnly(Given.SOME, y -> y.addConstraint(3, 0, 1, 2, 3), "instance");
        });
        says("Variables for positions that the relation does not have are ignored and need not exist.", () -> {
            int[] far = {5, -1, Integer.MIN_VALUE, Integer.MAX_VALUE, 16, 32};
            for (int wrong : far) {
                BooleanConstraints x = Given.some();
                equal(x.addConstraint(0, 4, wrong, wrong, wrong), 4);
                equal(x.addConstraint(1, 4, 3, wrong, wrong), 5);
                equal(x.addConstraint(2, 4, 3, 2, wrong), 6);
                BooleanConstraints due = Given.some();
                due.addConstraint(0, 4, 0, 0, 0);
                due.addConstraint(1, 4, 3, 0, 0);
                due.addConstraint(2, 4, 3, 2, 0);
                for (int assignment = 0; assignment < 32; assignment++) {
                    final int asked = assignment;
                    equal(Check.outcome(() -> x.firstViolated(asked)), Check.outcome(() -> due.firstViolated(asked)));
                }
            }
        });
        says("- `relation`: the number of the relation", () -> {
            for (int relation = 0; relation < 8; relation++) {
                BooleanConstraints x = Given.numbered(8, 3);
                x.setVariables(3);
                x.addConstraint(relation, 0, 1, 2, 0);
                solutionsAre(x, relation);
            }
        });
        for (int i = 0; i < 4; i++) {
            final int position = i;
            says("- `v" + position + "`: the variable for position " + position, () -> {
                positionIsItsVariable(position);
                takesVariables(position, InstanceSentences::constrain);
            });
        }
        says("Returns the number of the constraint.", () -> {
            BooleanConstraints x = Given.withVariables(10);
            x.addParity(4, 1);
            for (int number = 0; number < 20; number++) {
                equal(x.addConstraint(0, number % 10, 9, 0, 1), number);
            }
            x.removeLastConstraint();
            equal(x.addConstraint(0, 0, 1, 2, 3), 19);
            x.setVariables(4);
            equal(x.addConstraint(0, 0, 1, 2, 3), 0);
            x.removeRedundant();
            equal(x.addConstraint(0, 0, 1, 2, 2), 1);
        });
    }

    private void addConstraintRefused() {
        says("Throws `IndexOutOfBoundsException` if there is no such relation, or one of the variables that are not "
            + "ignored does not exist", () -> {
            for (int count : new int[] {0, 1, 8}) {
                takes(0, count - 1, () -> Given.numbered(count, 3), INDEX, (x, n) -> x.addConstraint(n, 0, 0, 0, 0));
            }
            takesNone(outside(0, 3), Given.SOME, INDEX, (x, n) -> x.addConstraint(n, 0, 0, 0, 0));
            takesNone(outside(0, 7), Given.FULL, INDEX, (x, n) -> x.addConstraint(n, 0, 0, 0, 0));
            for (int position = 0; position < 4; position++) {
                final int place = position;
                for (int relation = position; relation < 4; relation++) {
                    final int arity = relation + 1;
                    takesNone(outside(0, 4), Given.SOME, INDEX, (x, n) -> constrain(x, arity, withOne(place, n)));
                    takesNone(outside(0, 9), Given.FULL, INDEX, (x, n) -> constrain(x, arity + 4, withOne(place, n)));
                }
            }
            takesNone(outside(0, 0), () -> Given.object(1, 1), INDEX, (x, n) -> x.addConstraint(0, n, 0, 0, 0));
        });
        says("Throws `IllegalStateException` if there are already 20 constraints", () -> {
            BooleanConstraints x = withConstraints(19);
            equal(x.addConstraint(0, 9, 0, 0, 0), 19);
            fails(STATE, () -> x.addConstraint(0, 9, 0, 0, 0));
            equal(x.removeLastConstraint(), 19);
            equal(x.addConstraint(0, 9, 0, 0, 0), 19);
            refuses(() -> withConstraints(20), STATE, y -> y.addConstraint(0, 0, 0, 0, 0));
            for (int relation = 0; relation < 8; relation++) {
                final int asked = relation;
                refuses(Given.FULL, STATE, y -> y.addConstraint(asked, 9, 0, 9, 0));
            }
        });
    }

    private void removeLastConstraint() {
        promise(34);
        says("Removes the constraint that was added last.", () -> {
            BooleanConstraints x = Given.numbered(8, 3);
            x.setVariables(9);
            x.addConstraint(1, 0, 1, 2, 0);
            x.addConstraint(2, 3, 4, 5, 0);
            x.addConstraint(4, 6, 7, 8, 0);
            solutionsAre(x, 0b100010001);
            x.removeLastConstraint();
            equal(x.solutionCount(), 8);
            equal(x.solution(7), 0b111010001);
            x.removeLastConstraint();
            equal(x.solutionCount(), 64);
            x.removeLastConstraint();
            equal(x.solutionCount(), 512);
            changesOnly(Given.SOME, BooleanConstraints::removeLastConstraint, "instance");
            changesOnly(Given.FULL, BooleanConstraints::removeLastConstraint, "instance");
        });
        says("Returns the number of constraints that remain.", () -> {
            BooleanConstraints x = withConstraints(20);
            for (int remain = 19; remain >= 0; remain--) {
                equal(x.removeLastConstraint(), remain);
            }
        });
        says("Throws `IllegalStateException` if there are no constraints", () -> {
            refuses(Given.NEW, STATE, BooleanConstraints::removeLastConstraint);
            refuses(TEN, STATE, BooleanConstraints::removeLastConstraint);
            BooleanConstraints x = withConstraints(1);
            x.removeLastConstraint();
            fails(STATE, x::removeLastConstraint);
            equal(x.addConstraint(0, 0, 0, 0, 0), 0);
            x.clear();
            fails(STATE, x::removeLastConstraint);
        });
    }

    private void solutionCount() {
        promise(35);
        says("Returns the number of solutions.", () -> {
            answers(Given.SOME, 3, BooleanConstraints::solutionCount);
            answers(Given.FULL, 1, BooleanConstraints::solutionCount);
            for (int count = 1; count <= 10; count++) {
                BooleanConstraints x = Given.withVariables(count);
                x.addClause(1, 0);
                for (int variable = 0; variable < count; variable++) {
                    x.addConstraint(0, variable, 0, 0, 0);
                    equal(x.solutionCount(), 1 << count - 1 - variable);
                }
            }
        });
        says("Returns 0 to 1024.", () -> {
            for (int count = 1; count <= 10; count++) {
                BooleanConstraints x = Given.withVariables(count);
                equal(x.solutionCount(), 1 << count);
                x.addRelation(4);
                x.addConstraint(0, 0, 0, count - 1, 0);
                equal(x.solutionCount(), 0);
                x.addTuple(0, 0b1111);
                equal(x.solutionCount(), count == 1 ? 1 : 1 << count - 2);
            }
            equal(TEN.make().solutionCount(), 1024);
        });
    }

    private void solution() {
        promise(36);
        says("Returns a solution.", () -> {
            answers(Given.SOME, 0b10001, x -> x.solution(0));
            answers(Given.SOME, 0b10110, x -> x.solution(1));
            answers(Given.SOME, 0b11101, x -> x.solution(2));
            int only = Given.full().solution(0);
            answers(Given.FULL, only, x -> x.solution(0));
            fails(NONE, () -> Given.full().firstViolated(only));
        });
        says("- `index`: the number of the solution, from 0", () -> {
            takes(0, 1, Given.NEW, NONE, BooleanConstraints::solution);
            takes(0, 2, Given.SOME, NONE, BooleanConstraints::solution);
            takes(0, 0, Given.FULL, NONE, BooleanConstraints::solution);
            takes(0, 1023, TEN, NONE, BooleanConstraints::solution);
            takes(0, -1, NO_SOLUTION, NONE, BooleanConstraints::solution);
        });
        says("Returns the solution.", () -> {
            for (int count = 1; count <= 10; count++) {
                BooleanConstraints x = Given.withVariables(count);
                for (int index : new int[] {0, 1, (1 << count) - 2, (1 << count) - 1}) {
                    equal(x.solution(index), index);
                }
                x.addClause(1, 0);
                x.addConstraint(0, count - 1, 0, 0, 0);
                equal(x.solution(0), 1 << count - 1);
                equal(x.solution((1 << count - 1) - 1), (1 << count) - 1);
                x.setVariables(count);
                x.addConstraint(0, 0, 0, 0, 0);
                equal(x.solution(0), 1);
                equal(x.solution((1 << count - 1) - 1), (1 << count) - 1);
            }
        });
        says("Throws `NoSuchElementException` if there is no such solution", () -> {
            takesNone(outside(0, 1), Given.NEW, NONE, BooleanConstraints::solution);
            takesNone(outside(0, 2), Given.SOME, NONE, BooleanConstraints::solution);
            takesNone(outside(0, 0), Given.FULL, NONE, BooleanConstraints::solution);
            takesNone(outside(0, 1023), TEN, NONE, BooleanConstraints::solution);
            takesNone(outside(0, -1), NO_SOLUTION, NONE, BooleanConstraints::solution);
        });
    }

    private void isForced() {
        promise(37);
        says("Returns whether a variable has the same given value in all solutions.", () -> {
            for (int count = 1; count <= 10; count++) {
                for (int forced = 0; forced < count; forced++) {
                    for (int value = 0; value <= 1; value++) {
                        BooleanConstraints x = Given.withVariables(count);
                        Given.relation(x, 1, value);
                        x.addConstraint(0, forced, 0, 0, 0);
                        for (int variable = 0; variable < count; variable++) {
                            equal(x.isForced(variable, value), variable == forced);
                            isFalse(x.isForced(variable, 1 - value));
                        }
                    }
                }
            }
            answers(Given.SOME, true, x -> x.isForced(4, 1));
            answers(Given.SOME, false, x -> x.isForced(0, 1));
        });
        says("This is true if there are no solutions.", () -> {
            for (int variable = 0; variable < 2; variable++) {
                isTrue(NO_SOLUTION.make().isForced(variable, 0));
                isTrue(NO_SOLUTION.make().isForced(variable, 1));
            }
            BooleanConstraints x = TEN.make();
            x.addConstraint(0, 3, 0, 0, 0);
            for (int variable = 0; variable < 10; variable++) {
                isTrue(x.isForced(variable, 0));
                isTrue(x.isForced(variable, 1));
            }
        });
        says("- `variable`: the variable", () -> {
            for (int count = 1; count <= 10; count++) {
                final int variables = count;
                takes(0, count - 1, () -> Given.withVariables(variables), INDEX, (x, n) -> x.isForced(n, 0));
            }
        });
        says(VALUE_LINE, () -> {
            takes(0, 1, Given.NEW, ARGUMENT, (x, value) -> x.isForced(0, value));
            takes(0, 1, Given.FULL, ARGUMENT, (x, value) -> x.isForced(9, value));
        });
        says("Returns true if it has.", () -> {
            BooleanConstraints x = Given.object(1, 0);
            isFalse(x.isForced(0, 0));
            x.addConstraint(0, 0, 0, 0, 0);
            isTrue(x.isForced(0, 0));
            isFalse(x.isForced(0, 1));
        });
        says("Throws `IndexOutOfBoundsException` if there is no such variable", () -> {
            takesNone(outside(0, 0), Given.NEW, INDEX, (x, n) -> x.isForced(n, 1));
            takesNone(outside(0, 4), Given.SOME, INDEX, (x, n) -> x.isForced(n, 2));
            takesNone(outside(0, 9), Given.FULL, INDEX, (x, n) -> x.isForced(n, 0));
            takesNone(outside(0, 1), NO_SOLUTION, INDEX, (x, n) -> x.isForced(n, 0));
        });
        says(BIT, () -> {
            takesNone(outside(0, 1), Given.SOME, ARGUMENT, (x, value) -> x.isForced(0, value));
            takesNone(outside(0, 1), Given.FULL, ARGUMENT, (x, value) -> x.isForced(9, value));
            takesNone(outside(0, 1), NO_SOLUTION, ARGUMENT, (x, value) -> x.isForced(1, value));
        });
    }

    /** An implication along all variables, from the highest one down, and a relation that makes one of them v. */
    private static BooleanConstraints chain(int count, int value) {
        BooleanConstraints x = Given.withVariables(count);
        x.addClause(2, 0b01);
        Given.relation(x, 1, value);
        for (int variable = count - 1; variable > 0; variable--) {
            x.addConstraint(0, variable, variable - 1, 0, 0);
        }
        return x;
    }

    private void leastSolution() {
        promise(38);
        says("Returns the bitwise and of all solutions, for a language with kind 2; it is a solution, too.", () -> {
            for (int count = 1; count <= 10; count++) {
                equal(chain(count, 1).leastSolution(), 0);
                for (int variable = 0; variable < count; variable++) {
                    BooleanConstraints x = chain(count, 1);
                    x.addConstraint(1, variable, 0, 0, 0);
                    equal(x.leastSolution(), (2 << variable) - 1);
                    fails(NONE, () -> x.firstViolated(x.leastSolution()));
                }
            }
        });
        says("Returns the least solution.", () -> {
            answers(Given.NEW, 0, BooleanConstraints::leastSolution);
            answers(TEN, 0, BooleanConstraints::leastSolution);
            for (int count = 1; count <= 10; count++) {
                BooleanConstraints x = chain(count, 1);
                x.addConstraint(1, count - 1, 0, 0, 0);
                equal(x.leastSolution(), x.solution(0));
                equal(x.leastSolution(), (1 << count) - 1);
            }
        });
        says("Throws `UnsupportedOperationException` if the language does not have kind 2", () -> {
            refuses(Given.SOME, KIND, BooleanConstraints::leastSolution);
            refuses(Given.FULL, KIND, BooleanConstraints::leastSolution);
            refuses(() -> Given.object(2, 1, 2), KIND, BooleanConstraints::leastSolution);
            // Kinds 0, 1, 3, 4 and 5 are no kind 2, and a relation that no constraint uses counts.
            refuses(() -> Given.object(2, 1, 2, 3), KIND, BooleanConstraints::leastSolution);
            equal(Given.object(2, 0, 1, 2).leastSolution(), 0);
        });
        says(NO_SOLUTIONS, () -> {
            refuses(NO_SOLUTION, NONE, BooleanConstraints::leastSolution);
            BooleanConstraints x = TEN.make();
            x.addConstraint(0, 9, 0, 0, 0);
            fails(NONE, x::leastSolution);
            x.addTuple(0, 1);
            equal(x.leastSolution(), 512);
        });
    }

    private void greatestSolution() {
        promise(39);
        says("Returns the bitwise or of all solutions, for a language with kind 3; it is a solution, too.", () -> {
            for (int count = 1; count <= 10; count++) {
                equal(chain(count, 0).greatestSolution(), (1 << count) - 1);
                for (int variable = 0; variable < count; variable++) {
                    BooleanConstraints x = chain(count, 0);
                    x.addConstraint(1, variable, 0, 0, 0);
                    equal(x.greatestSolution(), (1 << variable) - 1);
                    fails(NONE, () -> x.firstViolated(x.greatestSolution()));
                }
            }
        });
        says("Returns the greatest solution.", () -> {
            answers(Given.NEW, 1, BooleanConstraints::greatestSolution);
            answers(TEN, 1023, BooleanConstraints::greatestSolution);
            for (int count = 1; count <= 10; count++) {
                BooleanConstraints x = chain(count, 0);
                x.addConstraint(1, count - 1, 0, 0, 0);
                equal(x.greatestSolution(), x.solution(x.solutionCount() - 1));
                x.addConstraint(1, 0, 0, 0, 0);
                equal(x.greatestSolution(), 0);
            }
        });
        says("Throws `UnsupportedOperationException` if the language does not have kind 3", () -> {
            refuses(Given.SOME, KIND, BooleanConstraints::greatestSolution);
            refuses(Given.FULL, KIND, BooleanConstraints::greatestSolution);
            refuses(() -> Given.object(2, 1, 2), KIND, BooleanConstraints::greatestSolution);
            refuses(() -> Given.object(2, 0, 1, 2), KIND, BooleanConstraints::greatestSolution);
            equal(Given.object(2, 1, 2, 3).greatestSolution(), 1);
        });
        says(NO_SOLUTIONS, () -> {
            refuses(NO_SOLUTION, NONE, BooleanConstraints::greatestSolution);
            BooleanConstraints x = TEN.make();
            x.addConstraint(0, 9, 0, 0, 0);
            fails(NONE, x::greatestSolution);
            x.addTuple(0, 0);
            equal(x.greatestSolution(), 511);
        });
    }

    private void implies() {
        promise(40);
        says("Returns whether, for a language with kind 4, every solution in which a variable has a value gives "
            + "another variable another value.", () -> {
            for (int count : new int[] {2, 6, 7, 10}) {
                BooleanConstraints x = chain(count, 1);
                for (int variable = 0; variable < count; variable++) {
                    for (int other = 0; other < count; other++) {
                        equal(x.implies(variable, 1, other, 1), other <= variable);
                        equal(x.implies(variable, 0, other, 0), other >= variable);
                        isFalse(x.implies(variable, 1, other, 0));
                        isFalse(x.implies(variable, 0, other, 1));
                    }
                }
            }
            answers(() -> chain(10, 1), true, x -> x.implies(9, 1, 0, 1));
        });
        says("This is true if there is no such solution.", () -> {
            BooleanConstraints x = chain(10, 1);
            x.addConstraint(1, 9, 0, 0, 0);
            for (int other = 0; other < 10; other++) {
                isTrue(x.implies(9, 0, other, 0));
                isTrue(x.implies(9, 0, other, 1));
                isTrue(x.implies(0, 1, other, 1));
                isFalse(x.implies(0, 1, other, 0));
            }
            for (int i = 0; i < 16; i++) {
                isTrue(NO_SOLUTION.make().implies(i & 1, i >> 1 & 1, i >> 2 & 1, i >> 3));
            }
        });
        for (int i = 0; i < 2; i++) {
            final boolean first = i == 0;
            says(first ? "- `variable`: the first variable"
                : "- `other`: the second variable, which may be the first one", () -> {
                for (int count = 1; count <= 10; count++) {
                    final int variables = count;
                    takes(0, count - 1, () -> Given.withVariables(variables), INDEX,
                        (x, n) -> first ? x.implies(n, 0, 0, 0) : x.implies(0, 0, n, 0));
                    for (int variable = 0; variable < count; variable++) {
                        BooleanConstraints x = Given.withVariables(count);
                        isTrue(x.implies(variable, 0, variable, 0));
                        isTrue(x.implies(variable, 1, variable, 1));
                        isFalse(x.implies(variable, 0, variable, 1));
                        isFalse(x.implies(variable, 1, variable, 0));
                    }
                }
            });
        }
        says("- `value`: the value of the first variable, 0 or 1",
            () -> takes(0, 1, TEN, ARGUMENT, (x, value) -> x.implies(9, value, 0, 0)));
        says("- `otherValue`: the value of the second variable, 0 or 1",
            () -> takes(0, 1, TEN, ARGUMENT, (x, value) -> x.implies(9, 0, 0, value)));
        says("Returns true if every such solution does.", () -> {
            BooleanConstraints x = Given.withVariables(2);
            x.addParity(2, 1);
            isFalse(x.implies(0, 1, 1, 0));
            x.addConstraint(0, 0, 1, 0, 0);
            isTrue(x.implies(0, 1, 1, 0));
            isFalse(x.implies(0, 1, 1, 1));
        });
    }

    private void impliesRefused() {
        says("Throws `UnsupportedOperationException` if the language does not have kind 4", () -> {
            refuses(Given.SOME, KIND, x -> x.implies(0, 0, 0, 0));
            refuses(Given.FULL, KIND, x -> x.implies(0, 0, 0, 0));
            Whole.Start hard = () -> Given.object(3, 1, 2, 4);
            refuses(hard, KIND, x -> x.implies(0, 0, 0, 0));
            takesNone(outside(0, 0), hard, KIND, (x, n) -> x.implies(n, 0, 0, 0));
            takesNone(outside(0, 1), hard, KIND, (x, n) -> x.implies(0, 0, 0, n));
        });
        says("Throws `IndexOutOfBoundsException` if one of the variables does not exist", () -> {
            takesNone(outside(0, 0), Given.NEW, INDEX, (x, n) -> x.implies(n, 0, 0, 0));
            takesNone(outside(0, 0), Given.NEW, INDEX, (x, n) -> x.implies(0, 0, n, 0));
            takesNone(outside(0, 9), TEN, INDEX, (x, n) -> x.implies(n, 2, 0, 0));
            takesNone(outside(0, 9), TEN, INDEX, (x, n) -> x.implies(0, 2, n, 2));
            takesNone(outside(0, 9), TEN, INDEX, (x, n) -> x.implies(n, 0, n, 0));
            takesNone(outside(0, 1), NO_SOLUTION, INDEX, (x, n) -> x.implies(1, 0, n, 0));
        });
        says("Throws `IllegalArgumentException` if one of the values is neither 0 nor 1", () -> {
            takesNone(outside(0, 1), TEN, ARGUMENT, (x, value) -> x.implies(0, value, 9, 0));
            takesNone(outside(0, 1), TEN, ARGUMENT, (x, value) -> x.implies(0, 0, 9, value));
            takesNone(outside(0, 1), TEN, ARGUMENT, (x, value) -> x.implies(0, value, 9, value));
            takesNone(outside(0, 1), NO_SOLUTION, ARGUMENT, (x, value) -> x.implies(0, value, 0, 0));
            takesNone(outside(0, 1), NO_SOLUTION, ARGUMENT, (x, value) -> x.implies(0, 1, 0, value));
        });
    }

    private void dimension() {
        promise(41);
        says("Returns the dimension of the set of solutions, for a language with kind 5: the exponent e for which "
            + "there are 2^e solutions.", () -> {
            for (int count = 1; count <= 10; count++) {
                BooleanConstraints x = Given.withVariables(count);
                x.addParity(2, 0);
                for (int variable = 1; variable < count; variable++) {
                    x.addConstraint(0, variable, variable - 1, 0, 0);
                    equal(x.dimension(), count - variable);
                    equal(x.solutionCount(), 1 << count - variable);
                }
            }
        });
        says("Returns the dimension, 0 to 10.", () -> {
            answers(Given.NEW, 1, BooleanConstraints::dimension);
            answers(TEN, 10, BooleanConstraints::dimension);
            for (int count = 1; count <= 10; count++) {
                BooleanConstraints x = Given.withVariables(count);
                equal(x.dimension(), count);
                x.addParity(1, count % 2);
                for (int variable = 0; variable < count; variable++) {
                    x.addConstraint(0, variable, 0, 0, 0);
                    equal(x.dimension(), count - 1 - variable);
                }
            }
        });
        says("Throws `UnsupportedOperationException` if the language does not have kind 5", () -> {
            refuses(Given.SOME, KIND, BooleanConstraints::dimension);
            refuses(Given.FULL, KIND, BooleanConstraints::dimension);
            refuses(() -> Given.object(2, 0, 1, 3), KIND, BooleanConstraints::dimension);
            equal(Given.object(2, 0, 3).dimension(), 1);
        });
        says(NO_SOLUTIONS, () -> {
            refuses(NO_SOLUTION, NONE, BooleanConstraints::dimension);
            BooleanConstraints x = TEN.make();
            x.addConstraint(0, 9, 0, 0, 0);
            fails(NONE, x::dimension);
            x.addTuple(0, 0);
            equal(x.dimension(), 9);
        });
    }

    private void define() {
        promise(42);
        says("Adds the relation that the instance defines on some of its variables: a tuple is in it if there is a "
            + "solution in which the variable for each position has the value of the tuple at that position.", () -> {
            // The only solution of ten variables is 0b1000000001, so each relation has one tuple.
            BooleanConstraints x = Given.withVariables(10);
            x.addParity(1, 1);
            x.addParity(1, 0);
            for (int variable = 0; variable < 10; variable++) {
                x.addConstraint(variable % 9 == 0 ? 0 : 1, variable, 0, 0, 0);
            }
            equal(Whole.tuples(x, x.define(4, 0, 1, 8, 9)), 1 << 0b1001);
            equal(Whole.tuples(x, x.define(3, 9, 5, 6, 0)), 1 << 0b001);
            equal(Whole.tuples(x, x.define(2, 4, 9, 0, 0)), 1 << 0b10);
            equal(Whole.tuples(x, x.define(1, 9, 0, 0, 0)), 1 << 1);
            BooleanConstraints none = NO_SOLUTION.make();
            for (int arity = 1; arity <= 4; arity++) {
                equal(Whole.tuples(none, none.define(arity, 0, 1, 0, 1)), 0);
                equal(none.arity(1 + arity), arity);
            }
            changesOnly(Given.SOME, y -> y.define(4, 0, 1, 2, 3), "relations");
        });
        says("Variables for positions that the new relation does not have are ignored.", () -> {
            for (int wrong : new int[] {5, -1, Integer.MIN_VALUE, Integer.MAX_VALUE, 16, 32}) {
                for (int arity = 1; arity <= 3; arity++) {
                    BooleanConstraints x = Given.some();
                    x.define(arity, 1, 2, 3, 4);
                    x.define(arity, 1, arity > 1 ? 2 : wrong, arity > 2 ? 3 : wrong, wrong);
                    equal(x.relationCount(), 6);
                    isTrue(x.areEqual(4, 5));
                }
            }
        });
        says("- `arity`: the arity of the new relation, 1 to 4", () -> {
            takes(1, 4, Given.NEW, ARGUMENT, (x, arity) -> x.define(arity, 0, 0, 0, 0));
            for (int arity = 1; arity <= 4; arity++) {
                BooleanConstraints x = TEN.make();
                equal(x.arity(x.define(arity, 6, 7, 8, 9)), arity);
                equal(x.tupleCount(1), 1 << arity);
            }
        });
        for (int i = 0; i < 4; i++) {
            final int position = i;
            says("- `v" + position + "`: the variable for position " + position, () -> {
                takesVariables(position, InstanceSentences::defineOn);
                definesPosition(position);
            });
        }
        says("Returns the number of the new relation.", () -> {
            BooleanConstraints x = new BooleanConstraints();
            for (int number = 0; number < 8; number++) {
                equal(x.define(1 + number % 4, 0, 0, 0, 0), number);
                equal(x.relationCount(), number + 1);
            }
            x.clear();
            equal(x.define(4, 0, 0, 0, 0), 0);
        });
    }

    /** Where one variable alone is 1, the position of that variable alone is 1. */
    private void definesPosition(int position) {
        for (int variable = 0; variable < 10; variable++) {
            BooleanConstraints x = Given.withVariables(10);
            x.addParity(1, 1);
            x.addParity(1, 0);
            for (int other = 0; other < 10; other++) {
                x.addConstraint(other == variable ? 0 : 1, other, 0, 0, 0);
            }
            int[] v = {(variable + 1) % 10, (variable + 1) % 10, (variable + 1) % 10, (variable + 1) % 10};
            v[position] = variable;
            for (int arity = position + 1; arity <= 4; arity++) {
                equal(Whole.tuples(x, x.define(arity, v[0], v[1], v[2], v[3])), 1 << (1 << position));
            }
        }
    }

    private void defineRefused() {
        says("Throws `IllegalArgumentException` if arity is out of range", () -> {
            for (Whole.Start start : new Whole.Start[] {Given.SOME, Given.FULL}) {
                takesNone(outside(1, 4), start, ARGUMENT, (x, arity) -> x.define(arity, 0, 0, 0, 0));
                takesNone(outside(1, 4), start, ARGUMENT, (x, arity) -> x.define(arity, -1, 10, -1, 10));
            }
        });
        says("Throws `IndexOutOfBoundsException` if one of the variables that are not ignored does not exist", () -> {
            for (int position = 0; position < 4; position++) {
                final int place = position;
                for (int arity = position + 1; arity <= 4; arity++) {
                    final int asked = arity;
                    takesNone(outside(0, 4), Given.SOME, INDEX, (x, n) -> defineOn(x, asked, withOne(place, n)));
                    takesNone(outside(0, 9), Given.FULL, INDEX, (x, n) -> defineOn(x, asked, withOne(place, n)));
                }
            }
            takesNone(outside(0, 0), Given.NEW, INDEX, (x, n) -> x.define(1, n, 0, 0, 0));
        });
        says(EIGHT, () -> {
            for (int arity = 1; arity <= 4; arity++) {
                final int asked = arity;
                BooleanConstraints x = Given.numbered(7, 2);
                equal(x.define(arity, 0, 0, 0, 0), 7);
                fails(STATE, () -> x.define(asked, 0, 0, 0, 0));
                refuses(Given.FULL, STATE, y -> y.define(asked, 9, 9, 9, 9));
            }
        });
    }

    private void firstViolated() {
        promise(43);
        says("Returns the lowest constraint that an assignment does not satisfy.", () -> {
            BooleanConstraints x = withConstraints(20);
            for (int variable = 0; variable < 10; variable++) {
                equal(x.firstViolated(1023 - (1 << variable)), variable);
                equal(x.firstViolated((1 << variable) - 1), variable);
            }
            answers(Given.SOME, 3, y -> y.firstViolated(0b00010));
        });
        says("- `assignment`: the assignment, 0 to 2^n - 1", () -> {
            for (int count = 1; count <= 10; count++) {
                final int variables = count;
                takes(0, (1 << count) - 1, () -> Given.withVariables(variables), ARGUMENT,
                    BooleanConstraints::firstViolated);
            }
        });
        says("Returns the number of the constraint.", () -> {
            BooleanConstraints x = Given.object(1);
            x.addConstraint(0, 0, 0, 0, 0);
            equal(x.firstViolated(0), 0);
            equal(x.firstViolated(1), 0);
            BooleanConstraints y = Given.object(1, 0, 1);
            y.addRelation(1);
            for (int i = 0; i < 19; i++) {
                y.addConstraint(0, 0, 0, 0, 0);
            }
            fails(NONE, () -> y.firstViolated(1));
            y.addConstraint(1, 0, 0, 0, 0);
            equal(y.firstViolated(0), 19);
            equal(y.firstViolated(1), 19);
        });
        says("Throws `IllegalArgumentException` if there is no such assignment", () -> {
            takesNone(outside(0, 1), Given.NEW, ARGUMENT, BooleanConstraints::firstViolated);
            takesNone(outside(0, 31), Given.SOME, ARGUMENT, BooleanConstraints::firstViolated);
            takesNone(outside(0, 1023), Given.FULL, ARGUMENT, BooleanConstraints::firstViolated);
        });
        says("Throws `NoSuchElementException` if the assignment is a solution", () -> {
            refuses(Given.SOME, NONE, x -> x.firstViolated(0b10001));
            refuses(Given.SOME, NONE, x -> x.firstViolated(0b10110));
            refuses(Given.SOME, NONE, x -> x.firstViolated(0b11101));
            refuses(Given.FULL, NONE, x -> x.firstViolated(x.solution(0)));
            refuses(Given.NEW, NONE, x -> x.firstViolated(0));
            refuses(TEN, NONE, x -> x.firstViolated(1023));
        });
    }

    private void isRedundant() {
        promise(44);
        says("Returns whether a constraint is redundant: the instance without it has the same solutions.", () -> {
            BooleanConstraints x = withConstraints(15);
            for (int constraint = 0; constraint < 15; constraint++) {
                equal(x.isRedundant(constraint), constraint < 5 || constraint >= 10);
            }
            answers(() -> withConstraints(20), true, y -> y.isRedundant(19));
            answers(Given.SOME, false, y -> y.isRedundant(3));
        });
        says("- `constraint`: the number of the constraint", () -> {
            for (int count : new int[] {0, 1, 19, 20}) {
                takes(0, count - 1, () -> withConstraints(count), INDEX, BooleanConstraints::isRedundant);
            }
            BooleanConstraints x = Given.withVariables(10);
            x.addParity(1, 1);
            x.define(1, 0, 0, 0, 0);
            for (int constraint = 0; constraint < 20; constraint++) {
                x.addConstraint(constraint == 13 ? 0 : 1, 9, 0, 0, 0);
            }
            for (int constraint = 0; constraint < 20; constraint++) {
                equal(x.isRedundant(constraint), constraint != 13);
            }
        });
        says("Returns true if it is.", () -> {
            isFalse(withConstraints(1).isRedundant(0));
            isFalse(withConstraints(10).isRedundant(9));
            isTrue(withConstraints(11).isRedundant(10));
            isTrue(withConstraints(11).isRedundant(0));
            isFalse(withConstraints(11).isRedundant(1));
        });
        says("Throws `IndexOutOfBoundsException` if there is no such constraint", () -> {
            takesNone(outside(0, -1), Given.NEW, INDEX, BooleanConstraints::isRedundant);
            takesNone(outside(0, 3), Given.SOME, INDEX, BooleanConstraints::isRedundant);
            takesNone(outside(0, 19), Given.FULL, INDEX, BooleanConstraints::isRedundant);
            BooleanConstraints x = withConstraints(20);
            x.removeLastConstraint();
            fails(INDEX, () -> x.isRedundant(19));
        });
    }

    private void removeRedundant() {
        promise(45);
        says("Removes redundant constraints: it goes through the constraints from the highest number to the lowest "
            + "one, and removes each that is redundant among those that are left then.", () -> {
            // Of three equalities in a ring each is redundant, and the highest one goes.
            BooleanConstraints x = Given.withVariables(3);
            x.addParity(2, 0);
            x.addConstraint(0, 0, 1, 0, 0);
            x.addConstraint(0, 1, 2, 0, 0);
            x.addConstraint(0, 2, 0, 0, 0);
            x.removeRedundant();
            solutionsAre(x, 0, 7);
            equal(x.firstViolated(0b110), 0);
            equal(x.firstViolated(0b011), 1);
            equal(x.removeLastConstraint(), 1);
            // Without solutions, the lowest constraint that leaves none with those below it stays.
            BooleanConstraints none = NO_SOLUTION.make();
            none.removeRedundant();
            equal(none.solutionCount(), 0);
            equal(none.removeLastConstraint(), 1);
            solutionsAre(none, 0b01, 0b11);
            changesOnly(Given.SOME, BooleanConstraints::removeRedundant);
            changesOnly(Given.FULL, BooleanConstraints::removeRedundant, "instance");
        });
        says("The constraints that are left keep their order and get the numbers from 0 on.", () -> {
            BooleanConstraints x = Given.withVariables(10);
            x.addParity(1, 1);
            x.define(1, 0, 0, 0, 0);
            for (int i = 0; i < 10; i++) {
                x.addConstraint(1, i, 0, 0, 0);
                x.addConstraint(0, 9 - i, 0, 0, 0);
            }
            equal(x.removeRedundant(), 10);
            for (int i = 0; i < 10; i++) {
                equal(x.firstViolated(1023 - (1 << 9 - i)), i);
                equal(x.firstViolated(1024 - (1 << 10 - i)), i);
            }
            fails(INDEX, () -> x.isRedundant(10));
            equal(x.addConstraint(1, 0, 0, 0, 0), 10);
        });
        says("Returns the number of constraints that were removed.", () -> {
            equal(new BooleanConstraints().removeRedundant(), 0);
            equal(Given.some().removeRedundant(), 0);
            for (int count = 0; count <= 20; count++) {
                BooleanConstraints x = withConstraints(count);
                equal(x.removeRedundant(), Math.max(0, count - 10));
                equal(x.removeRedundant(), 0);
            }
            BooleanConstraints x = Given.object(1, 0, 1);
            for (int i = 0; i < 20; i++) {
                x.addConstraint(0, 0, 0, 0, 0);
            }
            equal(x.removeRedundant(), 20);
            fails(STATE, x::removeLastConstraint);
        });
    }
}
