/** The sentences of the promises 1 to 16: a new object, and relations. */
final class RelationSentences extends Sentences {
    private static final String NUMBER_LINE = "- `relation`: the number of the relation";
    private static final String NUMBER_OF_A = "- `relation`: the number of a relation";
    private static final String OTHER_LINE = "- `other`: the number of a relation";
    private static final String TUPLE_LINE = "- `tuple`: the tuple";
    private static final String NEW_NUMBER = "Returns the number of the new relation.";
    private static final String NO_RELATION = "Throws `IndexOutOfBoundsException` if there is no such relation";
    private static final String NO_TUPLE =
        "Throws `IllegalArgumentException` if the relation has an arity for which there is no such tuple";
    private static final String EIGHT = "Throws `IllegalStateException` if there are already 8 relations";

    /** One relation of each arity: number 0 has arity 1, and so on. */
    private static final Whole.Start ARITIES = () -> {
        BooleanConstraints x = new BooleanConstraints();
        for (int arity = 1; arity <= 4; arity++) {
            x.addRelation(arity);
        }
        return x;
    };
    private static final Whole.Start SEVEN = () -> Given.numbered(7, 3);
    private static final Whole.Start EIGHT_OF_THREE = () -> Given.numbered(8, 3);

    RelationSentences(Check check) {
        super(check);
    }

    @Override
    void run() {
        newObject();
        addRelation();
        addClause();
        addParity();
        addTuple();
        removeTuple();
        contains();
        tupleCount();
        arity();
        relationCount();
        areEqual();
        clear();
        addComplement();
        addIntersection();
        addIntersectionRefused();
        addProjection();
        addProjectionRefused();
        addExchanged();
    }

    private static int all(int arity) {
        return (1 << (1 << arity)) - 1;
    }

    /** The new relation gets the next number, up to the eighth, and what was removed frees its number. */
    private void numbersFollow(Whole.Act add) {
        BooleanConstraints x = Given.numbered(1, 3);
        for (int number = 1; number < 8; number++) {
            equal(add.on(x), number);
            equal(x.relationCount(), number + 1);
        }
        BooleanConstraints y = Given.numbered(1, 3);
        y.saveSnapshot();
        add.on(y);
        y.restoreSnapshot();
        equal(add.on(y), 1);
    }

    /** Seven relations leave room for one more, eight do not, and none is left behind by what was refused. */
    private void eightAreEnough(ActWith add) {
        for (int other = 0; other < 7; other++) {
            final int relation = other;
            BooleanConstraints x = SEVEN.make();
            equal(Check.outcome(() -> add.on(x, relation)), "7");
            fails(STATE, () -> add.on(x, relation));
            refuses(EIGHT_OF_THREE, STATE, y -> add.on(y, relation));
        }
        BooleanConstraints x = EIGHT_OF_THREE.make();
        fails(STATE, () -> add.on(x, 0));
        x.clear();
        Given.relation(x, 3, 1);
        equal(add.on(x, 0), 1);
    }

    private void noSuchRelation(ActWith act) {
        for (int count : new int[] {0, 1, 7, 8}) {
            takes(0, count - 1, () -> Given.numbered(count, 3), INDEX, act);
        }
        takesNone(outside(0, 3), Given.SOME, INDEX, act);
        takesNone(outside(0, 7), Given.FULL, INDEX, act);
        BooleanConstraints x = Given.numbered(8, 3);
        x.clear();
        fails(INDEX, () -> act.on(x, 0));
        fails(INDEX, () -> act.on(x, 7));
    }

    private void newObject() {
        promise(1);
        says("Creates an object without relations and constraints, and with 1 variable.", () -> {
            BooleanConstraints x = new BooleanConstraints();
            equal(x.relationCount(), 0);
            fails(INDEX, () -> x.arity(0));
            fails(STATE, x::removeLastConstraint);
            fails(INDEX, () -> x.isRedundant(0));
            equal(x.solutionCount(), 2);
            isFalse(x.isForced(0, 0));
            fails(INDEX, () -> x.isForced(1, 0));
            fails(NONE, () -> x.firstViolated(1));
            fails(ARGUMENT, () -> x.firstViolated(2));
            new BooleanConstraints().addRelation(2);
            new BooleanConstraints().setVariables(10);
            equal(x.relationCount(), 0);
            equal(x.solutionCount(), 2);
        });
    }

    private void addRelation() {
        promise(2);
        says("Adds a relation without tuples.", () -> {
            for (int arity = 1; arity <= 4; arity++) {
                final int asked = arity;
                BooleanConstraints x = new BooleanConstraints();
                x.addRelation(arity);
                equal(x.tupleCount(0), 0);
                equal(Whole.tuples(x, 0), 0);
                changesOnly(Given.SOME, y -> y.addRelation(asked), "relations");
            }
            BooleanConstraints x = Given.some();
            x.addRelation(4);
            equal(Whole.tuples(x, 4), 0);
            for (int relation = 0; relation < 4; relation++) {
                equal(Whole.tuples(x, relation), Whole.tuples(Given.some(), relation));
            }
            BooleanConstraints again = Given.full();
            again.clear();
            for (int relation = 0; relation < 8; relation++) {
                again.addRelation(4);
                equal(again.tupleCount(relation), 0);
            }
        });
        says("- `arity`: the arity, 1 to 4", () -> {
            takes(1, 4, Given.NEW, ARGUMENT, BooleanConstraints::addRelation);
            for (int arity = 1; arity <= 4; arity++) {
                BooleanConstraints x = new BooleanConstraints();
                x.addRelation(arity);
                equal(x.arity(0), arity);
            }
        });
        says("Returns the number of the relation.", () -> {
            equal(new BooleanConstraints().addRelation(1), 0);
            numbersFollow(x -> x.addRelation(4));
        });
        says("Throws `IllegalArgumentException` if arity is out of range", () -> {
            takesNone(outside(1, 4), Given.SOME, ARGUMENT, BooleanConstraints::addRelation);
            takesNone(outside(1, 4), Given.FULL, ARGUMENT, BooleanConstraints::addRelation);
        });
        says(EIGHT, () -> {
            eightAreEnough((x, relation) -> x.addRelation(1 + relation % 4));
            refuses(Given.FULL, STATE, x -> x.addRelation(1));
            refuses(Given.FULL, STATE, x -> x.addRelation(4));
        });
    }

    private void addClause() {
        promise(3);
        says("Adds the relation of a clause: it contains all tuples but the one whose value at position i is 1 for "
            + "exactly those positions i for which bit i of signs is 1.", () -> {
            for (int arity = 1; arity <= 4; arity++) {
                for (int signs = 0; signs < 1 << arity; signs++) {
                    BooleanConstraints x = new BooleanConstraints();
                    x.addClause(arity, signs);
                    equal(x.arity(0), arity);
                    equal(Whole.tuples(x, 0), all(arity) - (1 << signs));
                }
            }
            BooleanConstraints x = new BooleanConstraints();
            x.addClause(3, 0b001);
            x.addComplement(0);
            x.write(1);
            equal(Whole.output(x), "100");
            changesOnly(Given.SOME, y -> y.addClause(4, 15), "relations");
        });
        says("- `arity`: the arity, 1 to 4", () -> takes(1, 4, Given.NEW, ARGUMENT, (x, n) -> x.addClause(n, 1)));
        says("- `signs`: the signs, 0 to 2^arity - 1", () -> {
            for (int arity = 1; arity <= 4; arity++) {
                final int asked = arity;
                takes(0, (1 << arity) - 1, Given.NEW, ARGUMENT, (x, signs) -> x.addClause(asked, signs));
            }
        });
        says("Returns the number of the relation.", () -> {
            equal(new BooleanConstraints().addClause(1, 0), 0);
            numbersFollow(x -> x.addClause(4, 15));
        });
        says("Throws `IllegalArgumentException` if arity or signs is out of range", () -> {
            for (Whole.Start start : new Whole.Start[] {Given.SOME, Given.FULL}) {
                takesNone(outside(1, 4), start, ARGUMENT, (x, n) -> x.addClause(n, 0));
                takesNone(outside(1, 4), start, ARGUMENT, (x, n) -> x.addClause(n, -1));
                takesNone(outside(0, 1), start, ARGUMENT, (x, signs) -> x.addClause(1, signs));
                takesNone(outside(0, 15), start, ARGUMENT, (x, signs) -> x.addClause(4, signs));
            }
        });
        says(EIGHT, () -> {
            eightAreEnough((x, relation) -> x.addClause(4, relation));
            refuses(Given.FULL, STATE, x -> x.addClause(1, 0));
            refuses(Given.FULL, STATE, x -> x.addClause(4, 15));
        });
    }

    private void addParity() {
        promise(4);
        says("Adds the relation of a parity: it contains all tuples whose values have a given sum modulo 2.", () -> {
            int[] odd = {0, 0b10, 0b0110, 0b10010110, 0b0110100110010110};
            for (int arity = 1; arity <= 4; arity++) {
                BooleanConstraints x = new BooleanConstraints();
                x.addParity(arity, 1);
                x.addParity(arity, 0);
                equal(x.arity(0), arity);
                equal(x.arity(1), arity);
                equal(Whole.tuples(x, 0), odd[arity]);
                equal(Whole.tuples(x, 1), all(arity) - odd[arity]);
            }
            changesOnly(Given.SOME, y -> y.addParity(4, 1), "relations");
        });
        says("- `arity`: the arity, 1 to 4", () -> takes(1, 4, Given.NEW, ARGUMENT, (x, n) -> x.addParity(n, 1)));
        says("- `sum`: the sum, 0 or 1", () -> {
            takes(0, 1, Given.NEW, ARGUMENT, (x, sum) -> x.addParity(1, sum));
            takes(0, 1, Given.NEW, ARGUMENT, (x, sum) -> x.addParity(4, sum));
        });
        says("Returns the number of the relation.", () -> {
            equal(new BooleanConstraints().addParity(1, 0), 0);
            numbersFollow(x -> x.addParity(4, 1));
        });
        says("Throws `IllegalArgumentException` if arity or sum is out of range", () -> {
            for (Whole.Start start : new Whole.Start[] {Given.SOME, Given.FULL}) {
                takesNone(outside(1, 4), start, ARGUMENT, (x, n) -> x.addParity(n, 0));
                takesNone(outside(0, 1), start, ARGUMENT, (x, sum) -> x.addParity(2, sum));
                takesNone(outside(0, 1), start, ARGUMENT, (x, sum) -> x.addParity(5, sum));
            }
        });
        says(EIGHT, () -> {
            eightAreEnough((x, relation) -> x.addParity(1 + relation % 4, relation % 2));
            refuses(Given.FULL, STATE, x -> x.addParity(1, 0));
            refuses(Given.FULL, STATE, x -> x.addParity(4, 1));
        });
    }

    /** For each arity the tuples from 0 to 2^arity - 1, and no other one. */
    private void takesTuples(Whole.Start start, TupleAct act) {
        for (int relation = 0; relation < 4; relation++) {
            final int asked = relation;
            takes(0, (2 << relation) - 1, start, ARGUMENT, (x, tuple) -> act.on(x, asked, tuple));
        }
    }

    private interface TupleAct {
        Object on(BooleanConstraints x, int relation, int tuple);
    }

    private void noSuchTuple(TupleAct act) {
        for (int relation = 0; relation < 4; relation++) {
            final int asked = relation;
            takesNone(outside(0, (2 << relation) - 1), Given.SOME, ARGUMENT, (x, n) -> act.on(x, asked, n));
            takesNone(outside(0, (2 << relation) - 1), Given.FULL, ARGUMENT, (x, n) -> act.on(x, asked + 4, n));
        }
    }

    private void addTuple() {
        promise(5);
        says("Adds a tuple to a relation.", () -> {
            for (int relation = 0; relation < 4; relation++) {
                BooleanConstraints x = ARITIES.make();
                for (int tuple = (2 << relation) - 1; tuple >= 0; tuple--) {
                    x.addTuple(relation, tuple);
                    equal(Whole.tuples(x, relation), all(relation + 1) - ((1 << tuple) - 1));
                }
                equal(x.relationCount(), 4);
            }
            changesOnly(Given.SOME, x -> x.addTuple(3, 1), "relations", "instance");
            changesOnly(Given.SOME, x -> x.addTuple(3, 0));
        });
        says(NUMBER_LINE, () -> {
            for (int relation = 0; relation < 8; relation++) {
                BooleanConstraints x = EIGHT_OF_THREE.make();
                x.addTuple(relation, (relation + 3) % 8);
                for (int other = 0; other < 8; other++) {
                    equal(Whole.tuples(x, other), 1 << other | (other == relation ? 1 << (other + 3) % 8 : 0));
                }
            }
        });
        says(TUPLE_LINE, () -> takesTuples(ARITIES, BooleanConstraints::addTuple));
        says("Returns true if the relation did not contain the tuple.", () -> {
            for (int relation = 0; relation < 4; relation++) {
                for (int tuple = 0; tuple < 2 << relation; tuple++) {
                    BooleanConstraints x = ARITIES.make();
                    isTrue(x.addTuple(relation, tuple));
                    isFalse(x.addTuple(relation, tuple));
                    x.removeTuple(relation, tuple);
                    isTrue(x.addTuple(relation, tuple));
                }
            }
            isFalse(Given.full().addTuple(7, 15));
            isFalse(Given.full().addTuple(7, 0));
        });
        says(NO_RELATION, () -> noSuchRelation((x, n) -> x.addTuple(n, 0)));
        says(NO_TUPLE, () -> noSuchTuple(BooleanConstraints::addTuple));
    }

    private void removeTuple() {
        promise(6);
        says("Removes a tuple from a relation.", () -> {
            for (int tuple = 0; tuple < 16; tuple++) {
                BooleanConstraints x = Given.full();
                x.removeTuple(7, tuple);
                equal(Whole.tuples(x, 7), 0xFFFF - (1 << tuple));
                equal(x.relationCount(), 8);
            }
            changesOnly(Given.SOME, x -> x.removeTuple(3, 0), "relations", "instance");
            changesOnly(Given.SOME, x -> x.removeTuple(3, 1));
        });
        says(NUMBER_LINE, () -> {
            for (int relation = 0; relation < 8; relation++) {
                BooleanConstraints x = EIGHT_OF_THREE.make();
                x.removeTuple(relation, relation);
                for (int other = 0; other < 8; other++) {
                    equal(Whole.tuples(x, other), other == relation ? 0 : 1 << other);
                }
            }
        });
        says(TUPLE_LINE, () -> takesTuples(ARITIES, BooleanConstraints::removeTuple));
        says("Returns true if the relation contained the tuple.", () -> {
            for (int relation = 0; relation < 4; relation++) {
                for (int tuple = 0; tuple < 2 << relation; tuple++) {
                    BooleanConstraints x = ARITIES.make();
                    isFalse(x.removeTuple(relation, tuple));
                    x.addTuple(relation, tuple);
                    isTrue(x.removeTuple(relation, tuple));
                    isFalse(x.removeTuple(relation, tuple));
                }
            }
        });
        says(NO_RELATION, () -> noSuchRelation((x, n) -> x.removeTuple(n, 0)));
        says(NO_TUPLE, () -> noSuchTuple(BooleanConstraints::removeTuple));
    }

    private void contains() {
        promise(7);
        says("Returns whether a relation contains a tuple.", () -> {
            for (int relation = 0; relation < 4; relation++) {
                for (int tuple = 0; tuple < 2 << relation; tuple++) {
                    BooleanConstraints x = ARITIES.make();
                    x.addTuple(relation, tuple);
                    for (int other = 0; other < 2 << relation; other++) {
                        equal(x.contains(relation, other), other == tuple);
                    }
                }
            }
            answers(Given.SOME, true, x -> x.contains(3, 15));
        });
        says(NUMBER_LINE, () -> {
            BooleanConstraints x = EIGHT_OF_THREE.make();
            for (int relation = 0; relation < 8; relation++) {
                for (int tuple = 0; tuple < 8; tuple++) {
                    equal(x.contains(relation, tuple), tuple == relation);
                }
            }
        });
        says(TUPLE_LINE, () -> takesTuples(ARITIES, BooleanConstraints::contains));
        says("Returns true if it does.", () -> {
            isTrue(Given.object(1, 0).contains(0, 0));
            isFalse(Given.object(1, 0).contains(0, 1));
            isTrue(Given.object(4, 15).contains(0, 15));
            isFalse(Given.object(4, 15).contains(0, 14));
            isFalse(Given.object(4).contains(0, 0));
            isTrue(Given.full().contains(7, 0));
        });
        says(NO_RELATION, () -> noSuchRelation((x, n) -> x.contains(n, 0)));
        says(NO_TUPLE, () -> noSuchTuple(BooleanConstraints::contains));
    }

    private void tupleCount() {
        promise(8);
        says("Returns the number of tuples of a relation.", () -> {
            BooleanConstraints x = Given.object(4, 15, 0, 7);
            equal(x.tupleCount(0), 3);
            x.addTuple(0, 7);
            equal(x.tupleCount(0), 3);
            x.removeTuple(0, 0);
            equal(x.tupleCount(0), 2);
            answers(Given.SOME, 7, y -> y.tupleCount(2));
        });
        says(NUMBER_LINE, () -> {
            BooleanConstraints x = new BooleanConstraints();
            for (int relation = 0; relation < 8; relation++) {
                x.addRelation(3);
                for (int tuple = 0; tuple < relation; tuple++) {
                    x.addTuple(relation, tuple);
                }
            }
            for (int relation = 0; relation < 8; relation++) {
                equal(x.tupleCount(relation), relation);
            }
        });
        says("Returns 0 to 16.", () -> {
            for (int arity = 1; arity <= 4; arity++) {
                BooleanConstraints x = Given.object(arity);
                equal(x.tupleCount(0), 0);
                for (int tuple = 0; tuple < 1 << arity; tuple++) {
                    x.addTuple(0, tuple);
                    equal(x.tupleCount(0), tuple + 1);
                }
            }
            equal(Given.full().tupleCount(7), 16);
        });
        says(NO_RELATION, () -> noSuchRelation(BooleanConstraints::tupleCount));
    }

    private void arity() {
        promise(9);
        says("Returns the arity of a relation.", () -> {
            for (int arity = 1; arity <= 4; arity++) {
                final int due = arity;
                equal(Given.object(arity).arity(0), arity);
                answers(Given.SOME, due, x -> x.arity(due - 1));
            }
        });
        says(NUMBER_LINE, () -> {
            BooleanConstraints x = Given.full();
            for (int relation = 0; relation < 8; relation++) {
                equal(x.arity(relation), 1 + relation % 4);
            }
        });
        says("Returns 1 to 4.", () -> {
            BooleanConstraints x = Given.object(4);
            equal(x.arity(0), 4);
            equal(x.arity(x.addProjection(0, 0)), 3);
            equal(x.arity(x.addProjection(1, 0)), 2);
            equal(x.arity(x.addProjection(2, 0)), 1);
            Given.type(x, "0000");
            equal(x.arity(x.parse()), 4);
            Given.type(x, "0");
            equal(x.arity(x.parse()), 1);
            equal(x.arity(x.define(4, 0, 0, 0, 0)), 4);
            equal(x.arity(x.define(1, 0, 0, 0, 0)), 1);
        });
        says(NO_RELATION, () -> noSuchRelation(BooleanConstraints::arity));
    }

    private void relationCount() {
        promise(10);
        says("Returns the number of relations.", () -> {
            answers(Given.NEW, 0, BooleanConstraints::relationCount);
            answers(Given.SOME, 4, BooleanConstraints::relationCount);
            BooleanConstraints x = Given.some();
            fails(ARGUMENT, () -> x.addRelation(0));
            equal(x.relationCount(), 4);
            x.clear();
            equal(x.relationCount(), 0);
        });
        says("Returns 0 to 8.", () -> {
            BooleanConstraints x = new BooleanConstraints();
            for (int count = 0; count < 8; count++) {
                equal(x.relationCount(), count);
                x.addRelation(1);
            }
            equal(x.relationCount(), 8);
            fails(STATE, () -> x.addRelation(1));
            equal(x.relationCount(), 8);
            answers(Given.FULL, 8, BooleanConstraints::relationCount);
        });
    }

    private void areEqual() {
        promise(11);
        says("Returns whether two relations have the same arity and the same tuples.", () -> {
            for (int arity = 1; arity <= 4; arity++) {
                for (int tuple = 0; tuple < 1 << arity; tuple++) {
                    BooleanConstraints x = Given.object(arity, tuple);
                    Given.relation(x, arity);
                    isFalse(x.areEqual(0, 1));
                    x.addTuple(1, tuple);
                    isTrue(x.areEqual(0, 1));
                    x.removeTuple(0, tuple);
                    isFalse(x.areEqual(0, 1));
                }
            }
            answers(Given.SOME, false, x -> x.areEqual(1, 2));
        });
        says(NUMBER_OF_A, () -> {
            BooleanConstraints x = EIGHT_OF_THREE.make();
            for (int relation = 0; relation < 8; relation++) {
                equal(x.areEqual(relation, 5), relation == 5);
            }
        });
        says(OTHER_LINE, () -> {
            BooleanConstraints x = EIGHT_OF_THREE.make();
            for (int other = 0; other < 8; other++) {
                equal(x.areEqual(2, other), other == 2);
            }
        });
        says("Returns true if they have.", () -> {
            BooleanConstraints x = Given.object(1, 0, 1);
            Given.relation(x, 2, 0, 1);
            Given.relation(x, 2, 1, 0);
            Given.relation(x, 3);
            Given.relation(x, 4);
            isFalse(x.areEqual(0, 1));
            isTrue(x.areEqual(1, 2));
            isFalse(x.areEqual(3, 4));
            isTrue(x.areEqual(4, 4));
        });
        says("Throws `IndexOutOfBoundsException` if one of the relations does not exist", () -> {
            noSuchRelation((x, n) -> x.areEqual(n, 0));
            noSuchRelation((x, n) -> x.areEqual(0, n));
            noSuchRelation((x, n) -> x.areEqual(n, n));
        });
    }

    private void clear() {
        promise(12);
        says("Removes all relations and all constraints.", () -> {
            for (Whole.Start start : new Whole.Start[] {Given.NEW, Given.SOME, Given.FULL}) {
                BooleanConstraints x = start.make();
                x.clear();
                equal(x.relationCount(), 0);
                fails(INDEX, () -> x.arity(0));
                fails(STATE, x::removeLastConstraint);
                fails(INDEX, () -> x.isRedundant(0));
                equal(x.solutionCount(), start == Given.NEW ? 2 : start == Given.SOME ? 32 : 1024);
                equal(x.addRelation(1), 0);
                equal(x.addConstraint(0, 0, 0, 0, 0), 0);
            }
        });
        says("The variables, the input and the flags stay.", () -> {
            changesOnly(Given.SOME, BooleanConstraints::clear, "relations", "instance");
            changesOnly(Given.FULL, BooleanConstraints::clear, "relations", "instance");
            for (int count = 1; count <= 10; count++) {
                BooleanConstraints x = Given.withVariables(count);
                x.addClause(1, 0);
                x.addConstraint(0, count - 1, 0, 0, 0);
                x.clear();
                equal(Whole.variables(x), count);
            }
        });
        says("Returns the number of relations that were removed.", () -> {
            for (int count = 0; count <= 8; count++) {
                BooleanConstraints x = Given.numbered(count, 4);
                equal(x.clear(), count);
                equal(x.clear(), 0);
            }
            equal(Given.full().clear(), 8);
        });
    }

    private void addComplement() {
        promise(13);
        says("Adds the complement of a relation: it has the same arity and contains just the tuples that the relation "
            + "does not contain.", () -> {
            for (int arity = 1; arity <= 4; arity++) {
                for (int set : new int[] {0, 1, all(arity) >> 1, all(arity) - 1, all(arity), 0b10}) {
                    BooleanConstraints x = Given.objectOfSet(arity, set);
                    x.addComplement(0);
                    equal(x.arity(1), arity);
                    equal(Whole.tuples(x, 1), all(arity) - set);
                    equal(Whole.tuples(x, 0), set);
                }
            }
            changesOnly(Given.SOME, x -> x.addComplement(3), "relations");
        });
        says(NUMBER_LINE, () -> {
            for (int relation = 0; relation < 7; relation++) {
                BooleanConstraints x = SEVEN.make();
                x.addComplement(relation);
                equal(Whole.tuples(x, 7), 255 - (1 << relation));
            }
        });
        says(NEW_NUMBER, () -> numbersFollow(x -> x.addComplement(0)));
        says(NO_RELATION, () -> noSuchRelation(BooleanConstraints::addComplement));
        says(EIGHT, () -> {
            eightAreEnough(BooleanConstraints::addComplement);
            refuses(Given.FULL, STATE, x -> x.addComplement(7));
        });
    }

    private void addIntersection() {
        promise(14);
        says("Adds the intersection of two relations of the same arity.", () -> {
            for (int arity = 1; arity <= 4; arity++) {
                int set = 0xDA9E & all(arity);
                BooleanConstraints x = Given.objectOfSet(arity, set);
                x.addClause(arity, (1 << arity) - 1);
                x.addRelation(arity);
                x.addComplement(2);
                int withoutLast = set & ~(1 << ((1 << arity) - 1));
                equal(Whole.tuples(x, x.addIntersection(0, 1)), withoutLast);
                equal(x.arity(4), arity);
                equal(Whole.tuples(x, x.addIntersection(0, 2)), 0);
                equal(Whole.tuples(x, x.addIntersection(3, 0)), set);
                equal(Whole.tuples(x, x.addIntersection(3, 3)), all(arity));
                equal(Whole.tuples(x, 0), set);
            }
            changesOnly(Given.SOME, x -> x.addIntersection(2, 2), "relations");
        });
        says(NUMBER_OF_A, () -> {
            for (int relation = 0; relation < 6; relation++) {
                BooleanConstraints x = Given.numbered(6, 3);
                x.addParity(3, 0);
                x.addIntersection(relation, 6);
                equal(Whole.tuples(x, 7), Integer.bitCount(relation) % 2 == 0 ? 1 << relation : 0);
            }
        });
        says(OTHER_LINE, () -> {
            for (int other = 0; other < 6; other++) {
                BooleanConstraints x = Given.numbered(6, 3);
                x.addParity(3, 1);
                x.addIntersection(6, other);
                equal(Whole.tuples(x, 7), Integer.bitCount(other) % 2 == 1 ? 1 << other : 0);
            }
        });
        says(NEW_NUMBER, () -> numbersFollow(x -> x.addIntersection(0, 0)));
    }

    private void addIntersectionRefused() {
        says("Throws `IndexOutOfBoundsException` if one of the relations does not exist", () -> {
            noSuchRelation((x, n) -> x.addIntersection(n, 0));
            noSuchRelation((x, n) -> x.addIntersection(0, n));
            noSuchRelation((x, n) -> x.addIntersection(n, n));
        });
        says("Throws `IllegalArgumentException` if the relations have different arities", () -> {
            for (int relation = 0; relation < 4; relation++) {
                for (int other = 0; other < 4; other++) {
                    final int first = relation;
                    final int second = other;
                    if (first == second) {
                        BooleanConstraints x = Given.some();
                        equal(x.addIntersection(first, second), 4);
                        // Eight relations: the same arity is no wrong argument.
                        fails(STATE, () -> Given.full().addIntersection(first, second + 4));
                    } else {
                        refuses(Given.SOME, ARGUMENT, x -> x.addIntersection(first, second));
                        refuses(Given.FULL, ARGUMENT, x -> x.addIntersection(first + 4, second));
                    }
                }
            }
        });
        says(EIGHT, () -> {
            eightAreEnough((x, relation) -> x.addIntersection(relation, 0));
            refuses(Given.FULL, STATE, x -> x.addIntersection(3, 7));
        });
    }

    private void addProjection() {
        promise(15);
        says("Adds the projection of a relation that leaves out one position: a tuple is in it if a tuple of the "
            + "relation becomes it when the value at that position is removed and the values at higher positions move "
            + "down by one.", () -> {
            for (int arity = 2; arity <= 4; arity++) {
                for (int position = 0; position < arity; position++) {
                    for (int tuple = 0; tuple < 1 << arity; tuple++) {
                        BooleanConstraints x = Given.object(arity, tuple);
                        x.write(0);
                        String due = new StringBuilder(Whole.output(x)).deleteCharAt(position).toString();
                        x.addProjection(0, position);
                        x.write(1);
                        equal(Whole.output(x), due);
                    }
                }
            }
            BooleanConstraints x = Given.object(2);
            equal(Whole.tuples(x, x.addProjection(0, 1)), 0);
            equal(Whole.tuples(x, 0), 0);
            changesOnly(Given.SOME, y -> y.addProjection(3, 3), "relations");
            // Two tuples that become the same one are one.
            BooleanConstraints y = Given.object(3, 0b011, 0b001, 0b100);
            equal(Whole.tuples(y, y.addProjection(0, 1)), 1 << 0b01 | 1 << 0b10);
        });
        says(NUMBER_LINE, () -> {
            for (int relation = 0; relation < 7; relation++) {
                BooleanConstraints x = SEVEN.make();
                x.addProjection(relation, 0);
                equal(Whole.tuples(x, 7), 1 << (relation >> 1));
            }
        });
        says("- `position`: the position that is left out, 0 to arity - 1", () -> {
            for (int arity = 1; arity <= 4; arity++) {
                final int relation = arity - 1;
                takes(0, arity - 1, ARITIES, INDEX, (x, position) -> x.addProjection(relation, position));
            }
        });
        says("Returns the number of the new relation, whose arity is less by 1.", () -> {
            numbersFollow(x -> x.addProjection(0, 2));
            for (int arity = 2; arity <= 4; arity++) {
                BooleanConstraints x = Given.object(arity, 1);
                equal(x.addProjection(0, 0), 1);
                equal(x.arity(1), arity - 1);
                equal(x.arity(0), arity);
            }
        });
    }

    private void addProjectionRefused() {
        says("Throws `IndexOutOfBoundsException` if there is no such relation or position", () -> {
            noSuchRelation((x, n) -> x.addProjection(n, 0));
            noSuchRelation((x, n) -> x.addProjection(n, 2));
            for (int arity = 1; arity <= 4; arity++) {
                final int relation = arity - 1;
                takesNone(outside(0, arity - 1), Given.SOME, INDEX, (x, n) -> x.addProjection(relation, n));
                takesNone(outside(0, arity - 1), Given.FULL, INDEX, (x, n) -> x.addProjection(relation + 4, n));
            }
        });
        says("Throws `IllegalArgumentException` if the relation has arity 1", () -> {
            refuses(ARITIES, ARGUMENT, x -> x.addProjection(0, 0));
            refuses(Given.SOME, ARGUMENT, x -> x.addProjection(0, 0));
            refuses(Given.FULL, ARGUMENT, x -> x.addProjection(4, 0));
            equal(Given.some().addProjection(1, 0), 4);
        });
        says(EIGHT, () -> {
            eightAreEnough((x, relation) -> x.addProjection(relation, relation % 3));
            refuses(Given.FULL, STATE, x -> x.addProjection(1, 1));
            refuses(Given.FULL, STATE, x -> x.addProjection(7, 3));
        });
    }

    private void addExchanged() {
        promise(16);
        says("Adds the relation that consists of the tuples of a relation with the values at two positions "
            + "exchanged.", () -> {
            for (int arity = 1; arity <= 4; arity++) {
                for (int i = 0; i < arity; i++) {
                    for (int j = 0; j < arity; j++) {
                        exchanges(arity, i, j);
                    }
                }
            }
            BooleanConstraints x = Given.object(2);
            equal(Whole.tuples(x, x.addExchanged(0, 0, 1)), 0);
            changesOnly(Given.SOME, y -> y.addExchanged(2, 0, 2), "relations");
        });
        says(NUMBER_LINE, () -> {
            for (int relation = 0; relation < 7; relation++) {
                BooleanConstraints x = SEVEN.make();
                x.addExchanged(relation, 1, 1);
                equal(Whole.tuples(x, 7), 1 << relation);
            }
        });
        says("- `i`: a position, 0 to arity - 1", () -> {
            for (int arity = 1; arity <= 4; arity++) {
                final int relation = arity - 1;
                takes(0, arity - 1, ARITIES, INDEX, (x, i) -> x.addExchanged(relation, i, 0));
            }
        });
        says("- `j`: a position, 0 to arity - 1, which may be the same one", () -> {
            for (int arity = 1; arity <= 4; arity++) {
                final int relation = arity - 1;
                takes(0, arity - 1, ARITIES, INDEX, (x, j) -> x.addExchanged(relation, 0, j));
                BooleanConstraints x = Given.objectOfSet(arity, 0x2D6A & all(arity));
                for (int j = 0; j < arity; j++) {
                    equal(Whole.tuples(x, x.addExchanged(0, j, j)), 0x2D6A & all(arity));
                }
            }
        });
        says(NEW_NUMBER, () -> numbersFollow(x -> x.addExchanged(0, 2, 0)));
        says("Throws `IndexOutOfBoundsException` if there is no such relation or position", () -> {
            noSuchRelation((x, n) -> x.addExchanged(n, 0, 2));
            for (int arity = 1; arity <= 4; arity++) {
                final int relation = arity - 1;
                takesNone(outside(0, arity - 1), Given.SOME, INDEX, (x, n) -> x.addExchanged(relation, n, 0));
                takesNone(outside(0, arity - 1), Given.SOME, INDEX, (x, n) -> x.addExchanged(relation, n, n));
                takesNone(outside(0, arity - 1), Given.FULL, INDEX, (x, n) -> x.addExchanged(relation + 4, 0, n));
            }
        });
        says(EIGHT, () -> {
            eightAreEnough((x, relation) -> x.addExchanged(relation, 0, 2));
            refuses(Given.FULL, STATE, x -> x.addExchanged(0, 0, 0));
            refuses(Given.FULL, STATE, x -> x.addExchanged(7, 3, 0));
        });
    }

    private void exchanges(int arity, int i, int j) {
        for (int tuple = 0; tuple < 1 << arity; tuple++) {
            BooleanConstraints x = Given.object(arity, tuple);
            x.write(0);
            StringBuilder due = new StringBuilder(Whole.output(x));
            char kept = due.charAt(i);
            due.setCharAt(i, due.charAt(j));
            due.setCharAt(j, kept);
            x.addExchanged(0, i, j);
            x.write(1);
            equal(Whole.output(x), due.toString());
            equal(x.arity(1), arity);
        }
    }
}
