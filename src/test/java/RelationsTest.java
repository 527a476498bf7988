/** Promises 1 to 16: a new object, and relations. */
public final class RelationsTest {
    private static final Check CHECK = new Check("RelationsTest");
    private static final Class<IllegalArgumentException> ARGUMENT = IllegalArgumentException.class;
    private static final Class<IllegalStateException> STATE = IllegalStateException.class;
    private static final Class<IndexOutOfBoundsException> INDEX = IndexOutOfBoundsException.class;
    private static final int[] BELOW_AND_ABOVE = {Integer.MIN_VALUE, -1, 0, 5, 32, 33, Integer.MAX_VALUE};

    /** Eight relations without tuples, of the arities 1 to 4 and again 1 to 4. */
    private static final Whole.Start EIGHT = RelationsTest::eight;
    /** A relation of each arity without tuples, and the same with all tuples and with some. */
    private static final Whole.Start EMPTY_ONES = () -> ofEachArity(0);
    private static final Whole.Start WHOLE_ONES = () -> ofEachArity(0xFFFF);
    private static final Whole.Start MIXED_ONES = () -> ofEachArity(0x5A5A);
    private static final Whole.Start[] OF_EACH_ARITY = {EMPTY_ONES, WHOLE_ONES, MIXED_ONES};

    public static void main(String[] args) {
        newObject();
        addRelation();
        addClause();
        addParity();
        addTuple();
        removeTuple();
        contains();
        tupleCount();
        arity();
        relationCount();
        areEqual();
        clear();
        addComplement();
        addIntersection();
        addProjection();
        addProjectionRefused();
        addExchanged();
        addExchangedRefused();
        CHECK.end();
    }

    private static BooleanConstraints eight() {
        BooleanConstraints x = new BooleanConstraints();
        for (int i = 0; i < 8; i++) {
            x.addRelation(1 + i % 4);
        }
        return x;
    }

    private static BooleanConstraints ofEachArity(int set) {
        BooleanConstraints x = new BooleanConstraints();
        for (int arity = 1; arity <= 4; arity++) {
            Given.relationOfSet(x, arity, set);
        }
        return x;
    }

    private static void newObject() {
        BooleanConstraints x = new BooleanConstraints();
        CHECK.equal("1: relationCount", x.relationCount(), 0);
        CHECK.equal("1: variables", Whole.variables(x), 1);
        CHECK.equal("1: solutionCount", x.solutionCount(), 2);
        CHECK.fails("1: no constraints", STATE, x::removeLastConstraint);
        CHECK.fails("1: no error position", STATE, x::errorPosition);
        CHECK.fails("1: no output", INDEX, () -> x.outputAt(0));
        CHECK.fails("1: no snapshot", STATE, x::restoreSnapshot);
        for (int slot = 0; slot < 3; slot++) {
            final int asked = slot;
            CHECK.fails("1: no flags", STATE, () -> x.setFlag(asked, 0, true));
        }
        CHECK.equal("1: no input", x.append('0'), 1);
        new BooleanConstraints().addRelation(2);
        CHECK.equal("1: another object is another one", x.relationCount(), 0);
    }

    private static void addRelation() {
        BooleanConstraints x = new BooleanConstraints();
        for (int i = 0; i < 8; i++) {
            CHECK.equal("2: number", x.addRelation(1 + i % 4), i);
            CHECK.equal("2: arity", x.arity(i), 1 + i % 4);
            CHECK.equal("2: no tuples", Whole.tuples(x, i), 0);
        }
        x.clear();
        x.addClause(4, 0);
        x.clear();
        x.addRelation(4);
        CHECK.equal("2: no tuples of a relation that was there before", Whole.tuples(x, 0), 0);
        CHECK.refuses(EIGHT, "2: a ninth", STATE, y -> y.addRelation(1));
        for (int wrong : BELOW_AND_ABOVE) {
            CHECK.refuses(EIGHT, "2: arity before room", ARGUMENT, y -> y.addRelation(wrong));
            CHECK.refuses(Given.NEW, "2: arity", ARGUMENT, y -> y.addRelation(wrong));
        }
    }

    private static void addClause() {
        for (int arity = 1; arity <= 4; arity++) {
            for (int signs = 0; signs < 1 << arity; signs++) {
                BooleanConstraints x = new BooleanConstraints();
                CHECK.equal("3: number", x.addClause(arity, signs), 0);
                CHECK.equal("3: arity", x.arity(0), arity);
                CHECK.equal("3: tuples", Whole.tuples(x, 0), ((1 << (1 << arity)) - 1) ^ (1 << signs));
            }
            final int asked = arity;
            for (int wrong : new int[] {-1, 1 << arity, Integer.MIN_VALUE, Integer.MAX_VALUE}) {
                CHECK.refuses(Given.NEW, "3: signs", ARGUMENT, x -> x.addClause(asked, wrong));
            }
        }
        CHECK.refuses(EIGHT, "3: a ninth", STATE, x -> x.addClause(4, 15));
        CHECK.refuses(EIGHT, "3: signs before room", ARGUMENT, x -> x.addClause(2, 4));
        for (int wrong : BELOW_AND_ABOVE) {
            CHECK.refuses(EIGHT, "3: arity before room", ARGUMENT, x -> x.addClause(wrong, 0));
        }
    }

    private static void addParity() {
        for (int arity = 1; arity <= 4; arity++) {
            for (int sum = 0; sum <= 1; sum++) {
                BooleanConstraints x = new BooleanConstraints();
                CHECK.equal("4: number", x.addParity(arity, sum), 0);
                CHECK.equal("4: arity", x.arity(0), arity);
                for (int tuple = 0; tuple < 1 << arity; tuple++) {
                    int total = (tuple & 1) + (tuple >> 1 & 1) + (tuple >> 2 & 1) + (tuple >> 3);
                    CHECK.equal("4: tuple " + tuple, x.contains(0, tuple), total % 2 == sum);
                }
            }
        }
        CHECK.refuses(EIGHT, "4: a ninth", STATE, x -> x.addParity(4, 1));
        for (int wrong : new int[] {-1, 2, Integer.MIN_VALUE, Integer.MAX_VALUE}) {
            CHECK.refuses(EIGHT, "4: sum before room", ARGUMENT, x -> x.addParity(2, wrong));
            CHECK.refuses(Given.NEW, "4: sum", ARGUMENT, x -> x.addParity(1, wrong));
        }
        for (int wrong : BELOW_AND_ABOVE) {
            CHECK.refuses(EIGHT, "4: arity before room", ARGUMENT, x -> x.addParity(wrong, 0));
            CHECK.refuses(Given.NEW, "4: arity", ARGUMENT, x -> x.addParity(wrong, 1));
        }
    }

    private static void addTuple() {
        BooleanConstraints x = new BooleanConstraints();
        for (int arity = 1; arity <= 4; arity++) {
            int relation = x.addRelation(arity);
            for (int tuple = (1 << arity) - 1; tuple >= 0; tuple--) {
                CHECK.isTrue("5: a new tuple", x.addTuple(relation, tuple));
                CHECK.isFalse("5: the tuple again", x.addTuple(relation, tuple));
                CHECK.equal("5: tupleCount", x.tupleCount(relation), (1 << arity) - tuple);
            }
        }
        for (Whole.Start start : OF_EACH_ARITY) {
            for (int i = 0; i < 4; i++) {
                final int relation = i;
                CHECK.refuses(start, "5: too many digits", ARGUMENT, y -> y.addTuple(relation, 2 << relation));
                CHECK.refuses(start, "5: negative", ARGUMENT, y -> y.addTuple(relation, -1));
                CHECK.refuses(start, "5: least", ARGUMENT, y -> y.addTuple(relation, Integer.MIN_VALUE));
                CHECK.refuses(start, "5: greatest", ARGUMENT, y -> y.addTuple(relation, Integer.MAX_VALUE));
            }
            CHECK.refuses(start, "5: relation", INDEX, y -> y.addTuple(4, 0));
            CHECK.refuses(start, "5: relation before tuple", INDEX, y -> y.addTuple(-1, 99));
            CHECK.refuses(start, "5: relation before tuple", INDEX, y -> y.addTuple(4, -1));
        }
    }

    private static void removeTuple() {
        BooleanConstraints x = new BooleanConstraints();
        for (int arity = 1; arity <= 4; arity++) {
            int relation = x.addClause(arity, 1);
            CHECK.isFalse("6: a tuple that is not there", x.removeTuple(relation, 1));
            CHECK.isTrue("6: a tuple that is there", x.removeTuple(relation, 0));
            CHECK.isFalse("6: the tuple again", x.removeTuple(relation, 0));
            CHECK.equal("6: the others stay", x.tupleCount(relation), (1 << arity) - 2);
        }
        for (Whole.Start start : OF_EACH_ARITY) {
            for (int i = 0; i < 4; i++) {
                final int relation = i;
                CHECK.refuses(start, "6: too many digits", ARGUMENT, y -> y.removeTuple(relation, 2 << relation));
                CHECK.refuses(start, "6: negative", ARGUMENT, y -> y.removeTuple(relation, -1));
                CHECK.refuses(start, "6: a shift's length", ARGUMENT, y -> y.removeTuple(relation, 33));
            }
            CHECK.refuses(start, "6: relation before tuple", INDEX, y -> y.removeTuple(4, 16));
            CHECK.refuses(start, "6: relation", INDEX, y -> y.removeTuple(-1, 0));
        }
    }

    private static void contains() {
        Whole.Start start = () -> Given.object(3, 2, 7);
        BooleanConstraints x = start.make();
        for (int tuple = 0; tuple < 8; tuple++) {
            CHECK.equal("7: tuple " + tuple, x.contains(0, tuple), tuple == 2 || tuple == 7);
        }
        for (int wrong : new int[] {8, -1, 34, Integer.MIN_VALUE, Integer.MAX_VALUE}) {
            CHECK.refuses(start, "7: tuple", ARGUMENT, y -> y.contains(0, wrong));
        }
        CHECK.refuses(start, "7: relation before tuple", INDEX, y -> y.contains(1, 8));
        CHECK.refuses(start, "7: relation", INDEX, y -> y.contains(-1, 0));
        CHECK.refuses(start, "7: relation", INDEX, y -> y.contains(Integer.MAX_VALUE, 0));
    }

    private static void tupleCount() {
        BooleanConstraints x = new BooleanConstraints();
        CHECK.fails("8: no relation", INDEX, () -> x.tupleCount(0));
        x.addRelation(4);
        for (int tuple = 0; tuple < 16; tuple++) {
            CHECK.equal("8: count", x.tupleCount(0), tuple);
            x.addTuple(0, tuple);
        }
        CHECK.equal("8: all", x.tupleCount(0), 16);
        CHECK.refuses(WHOLE_ONES, "8: relation", INDEX, y -> y.tupleCount(4));
        CHECK.refuses(WHOLE_ONES, "8: relation", INDEX, y -> y.tupleCount(-1));
    }

    private static void arity() {
        BooleanConstraints x = eight();
        for (int i = 0; i < 8; i++) {
            CHECK.equal("9: arity", x.arity(i), 1 + i % 4);
        }
        CHECK.refuses(EIGHT, "9: relation", INDEX, y -> y.arity(8));
        CHECK.refuses(EIGHT, "9: relation", INDEX, y -> y.arity(-1));
        Whole.Start cleared = () -> {
            BooleanConstraints y = eight();
            y.clear();
            return y;
        };
        CHECK.refuses(cleared, "9: a relation that was removed", INDEX, y -> y.arity(0));
    }

    private static void relationCount() {
        BooleanConstraints x = new BooleanConstraints();
        for (int i = 0; i < 8; i++) {
            CHECK.equal("10: count", x.relationCount(), i);
            x.addRelation(2);
        }
        CHECK.equal("10: all", x.relationCount(), 8);
    }

    private static BooleanConstraints toCompare() {
        BooleanConstraints x = Given.object(2, 0, 1);
        Given.relation(x, 2, 1, 0);
        Given.relation(x, 3, 0, 1);
        Given.relation(x, 2, 0, 2);
        Given.relation(x, 3);
        Given.relation(x, 2);
        return x;
    }

    private static void areEqual() {
        BooleanConstraints x = toCompare();
        CHECK.isTrue("11: itself", x.areEqual(0, 0));
        CHECK.isTrue("11: the same tuples", x.areEqual(0, 1));
        CHECK.isFalse("11: another arity", x.areEqual(0, 2));
        CHECK.isFalse("11: other tuples", x.areEqual(3, 0));
        CHECK.isFalse("11: another arity without tuples", x.areEqual(4, 5));
        CHECK.isTrue("11: itself without tuples", x.areEqual(5, 5));
        Whole.Start start = RelationsTest::toCompare;
        CHECK.refuses(start, "11: first", INDEX, y -> y.areEqual(6, 0));
        CHECK.refuses(start, "11: second", INDEX, y -> y.areEqual(0, 6));
        CHECK.refuses(start, "11: first", INDEX, y -> y.areEqual(-1, 0));
        CHECK.refuses(start, "11: second", INDEX, y -> y.areEqual(0, -1));
        CHECK.refuses(start, "11: no such relation is equal to itself", INDEX, y -> y.areEqual(7, 7));
    }

    private static void clear() {
        BooleanConstraints x = Given.object(2, 1, 2);
        x.addClause(3, 0);
        x.setVariables(4);
        x.addConstraint(0, 0, 1, 0, 0);
        x.append('1');
        x.append('1');
        x.write(0);
        x.storeFlags(1, 3, 0);
        CHECK.equal("12: removed", x.clear(), 2);
        CHECK.equal("12: no relations", x.relationCount(), 0);
        CHECK.equal("12: the variables stay", Whole.variables(x), 4);
        CHECK.equal("12: no constraints", x.solutionCount(), 16);
        CHECK.fails("12: no constraints", STATE, x::removeLastConstraint);
        CHECK.equal("12: the output stays", Whole.output(x), "10,01");
        CHECK.equal("12: the input stays", x.parse(), 0);
        CHECK.equal("12: the input stays", Whole.tuples(x, 0), 8);
        CHECK.equal("12: the flags stay", x.takeFlags(1, 0), 2);
        CHECK.equal("12: again", x.clear(), 1);
        CHECK.equal("12: nothing", x.clear(), 0);
    }

    private static void addComplement() {
        BooleanConstraints x = Given.object(3, 0, 5);
        CHECK.equal("13: number", x.addComplement(0), 1);
        CHECK.equal("13: arity", x.arity(1), 3);
        CHECK.equal("13: tuples", Whole.tuples(x, 1), 0xFF ^ 0x21);
        CHECK.equal("13: the relation stays", Whole.tuples(x, 0), 0x21);
        x.addRelation(4);
        CHECK.equal("13: of no tuples", Whole.tuples(x, x.addComplement(2)), 0xFFFF);
        CHECK.equal("13: of all tuples", Whole.tuples(x, x.addComplement(3)), 0);
        CHECK.refuses(MIXED_ONES, "13: relation", INDEX, y -> y.addComplement(4));
        CHECK.refuses(MIXED_ONES, "13: relation", INDEX, y -> y.addComplement(-1));
        CHECK.refuses(EIGHT, "13: a ninth", STATE, y -> y.addComplement(7));
        CHECK.refuses(EIGHT, "13: relation before room", INDEX, y -> y.addComplement(8));
    }

    private static void addIntersection() {
        BooleanConstraints x = Given.object(2, 0, 1, 3);
        Given.relation(x, 2, 1, 2, 3);
        Given.relation(x, 3, 1, 2, 3);
        CHECK.equal("14: number", x.addIntersection(0, 1), 3);
        CHECK.equal("14: arity", x.arity(3), 2);
        CHECK.equal("14: tuples", Whole.tuples(x, 3), 0xA);
        CHECK.equal("14: with itself", Whole.tuples(x, x.addIntersection(2, 2)), 0xE);
        CHECK.refuses(MIXED_ONES, "14: arities", ARGUMENT, y -> y.addIntersection(0, 2));
        CHECK.refuses(MIXED_ONES, "14: first", INDEX, y -> y.addIntersection(4, 0));
        CHECK.refuses(MIXED_ONES, "14: second", INDEX, y -> y.addIntersection(0, 4));
        CHECK.refuses(MIXED_ONES, "14: second", INDEX, y -> y.addIntersection(0, -1));
        CHECK.refuses(EIGHT, "14: a ninth", STATE, y -> y.addIntersection(0, 4));
        CHECK.refuses(EIGHT, "14: arities before room", ARGUMENT, y -> y.addIntersection(0, 1));
        CHECK.refuses(EIGHT, "14: relation before room", INDEX, y -> y.addIntersection(0, 8));
    }

    private static void addProjection() {
        BooleanConstraints x = Given.object(4, 0b1010, 0b0010, 0b0111);
        int[] due = {1 << 0b101 | 1 << 0b001 | 1 << 0b011, 1 << 0b100 | 1 << 0b000 | 1 << 0b011,
            1 << 0b110 | 1 << 0b010 | 1 << 0b011, 1 << 0b010 | 1 << 0b111};
        for (int position = 0; position < 4; position++) {
            CHECK.equal("15: number", x.addProjection(0, position), 1 + position);
            CHECK.equal("15: arity", x.arity(1 + position), 3);
            CHECK.equal("15: tuples", Whole.tuples(x, 1 + position), due[position]);
        }
        x.addProjection(1, 0);
        x.addProjection(5, 1);
        CHECK.equal("15: arity 1", x.arity(6), 1);
        CHECK.fails("15: arity 1", ARGUMENT, () -> x.addProjection(6, 0));
        BooleanConstraints zero = Given.object(3, 0);
        CHECK.equal("15: of the tuple 0", Whole.tuples(zero, zero.addProjection(0, 2)), 1);
        BooleanConstraints none = Given.object(2);
        CHECK.equal("15: of no tuples", Whole.tuples(none, none.addProjection(0, 1)), 0);
    }

    private static void addProjectionRefused() {
        CHECK.refuses(MIXED_ONES, "15: arity 1", ARGUMENT, x -> x.addProjection(0, 0));
        CHECK.refuses(MIXED_ONES, "15: position before arity 1", INDEX, x -> x.addProjection(0, 1));
        CHECK.refuses(MIXED_ONES, "15: position", INDEX, x -> x.addProjection(3, 4));
        CHECK.refuses(MIXED_ONES, "15: position", INDEX, x -> x.addProjection(3, -1));
        CHECK.refuses(MIXED_ONES, "15: relation", INDEX, x -> x.addProjection(4, 0));
        CHECK.refuses(EIGHT, "15: a ninth", STATE, x -> x.addProjection(1, 1));
        CHECK.refuses(EIGHT, "15: arity 1 before room", ARGUMENT, x -> x.addProjection(0, 0));
        CHECK.refuses(EIGHT, "15: position before room", INDEX, x -> x.addProjection(1, 2));
        CHECK.refuses(EIGHT, "15: relation before room", INDEX, x -> x.addProjection(-1, 0));
    }

    private static void addExchanged() {
        BooleanConstraints x = Given.object(4, 0b0001, 0b1001, 0b0100);
        CHECK.equal("16: number", x.addExchanged(0, 0, 2), 1);
        CHECK.equal("16: arity", x.arity(1), 4);
        CHECK.equal("16: tuples", Whole.tuples(x, 1), 1 << 0b0100 | 1 << 0b1100 | 1 << 0b0001);
        CHECK.equal("16: the other way", Whole.tuples(x, x.addExchanged(0, 2, 0)), Whole.tuples(x, 1));
        CHECK.equal("16: the same position", Whole.tuples(x, x.addExchanged(0, 3, 3)), Whole.tuples(x, 0));
        CHECK.equal("16: the last position", Whole.tuples(x, x.addExchanged(0, 3, 1)),
            1 << 0b0001 | 1 << 0b0011 | 1 << 0b0100);
        x.addParity(4, 0);
        CHECK.equal("16: of the even tuples", Whole.tuples(x, x.addExchanged(5, 1, 2)), Whole.tuples(x, 5));
    }

    private static void addExchangedRefused() {
        CHECK.refuses(MIXED_ONES, "16: i", INDEX, x -> x.addExchanged(3, 4, 0));
        CHECK.refuses(MIXED_ONES, "16: j", INDEX, x -> x.addExchanged(3, 0, 4));
        CHECK.refuses(MIXED_ONES, "16: i", INDEX, x -> x.addExchanged(3, -1, 0));
        CHECK.refuses(MIXED_ONES, "16: j", INDEX, x -> x.addExchanged(3, 0, -1));
        CHECK.refuses(MIXED_ONES, "16: relation", INDEX, x -> x.addExchanged(4, 0, 0));
        CHECK.refuses(EIGHT, "16: a ninth", STATE, x -> x.addExchanged(0, 0, 0));
        CHECK.refuses(EIGHT, "16: position before room", INDEX, x -> x.addExchanged(0, 0, 1));
        CHECK.refuses(EIGHT, "16: relation before room", INDEX, x -> x.addExchanged(8, 0, 0));
    }
}
