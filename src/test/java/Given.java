/** Objects and relations to begin with. */
final class Given {
    static final Whole.Start NEW = BooleanConstraints::new;
    static final Whole.Start SOME = Given::some;
    static final Whole.Start FULL = Given::full;

    /** The longest text there is: twelve tuples of arity 4, 59 characters. */
    static final String LONGEST_TEXT = "0101,1010,0101,1010,0101,1010,0101,1010,0101,1010,0101,1111";

    private Given() {
    }

    /** An object with one relation that has given tuples. */
    static BooleanConstraints object(int arity, int... tuples) {
        BooleanConstraints x = new BooleanConstraints();
        relation(x, arity, tuples);
        return x;
    }

    /** The number of a new relation that has given tuples. */
    static int relation(BooleanConstraints x, int arity, int... tuples) {
        int relation = x.addRelation(arity);
        for (int tuple : tuples) {
            x.addTuple(relation, tuple);
        }
        return relation;
    }

    /** An object with one relation that has the tuples of a set: bit t for tuple t. */
    static BooleanConstraints objectOfSet(int arity, int set) {
        BooleanConstraints x = new BooleanConstraints();
        relationOfSet(x, arity, set);
        return x;
    }

    /** The number of a new relation that has those tuples of a set that its arity has. */
    static int relationOfSet(BooleanConstraints x, int arity, int set) {
        int relation = x.addRelation(arity);
        for (int tuple = 0; tuple < 1 << arity; tuple++) {
            if ((set >> tuple & 1) != 0) {
                x.addTuple(relation, tuple);
            }
        }
        return relation;
    }

    /** An object with relations of one arity, each with a single tuple: its own number, as far as the arity goes. */
    static BooleanConstraints numbered(int count, int arity) {
        BooleanConstraints x = new BooleanConstraints();
        for (int i = 0; i < count; i++) {
            relation(x, arity, i % (1 << arity));
        }
        return x;
    }

    static BooleanConstraints withVariables(int count) {
        BooleanConstraints x = new BooleanConstraints();
        x.setVariables(count);
        return x;
    }

    static void type(BooleanConstraints x, String text) {
        for (int i = 0; i < text.length(); i++) {
            x.append(text.charAt(i));
        }
    }

    /**
     * An object with something in each part: relations of the arities 1 to 4 with the numbers 0 to 3, five variables,
     * four constraints, an input, an output, an error position, a snapshot, and flags in the slots 0 and 1.
     */
    static BooleanConstraints some() {
        BooleanConstraints x = new BooleanConstraints();
        x.addClause(1, 0);
        x.addParity(2, 1);
        x.addClause(3, 0b101);
        x.setVariables(3);
        x.addConstraint(1, 2, 0, 0, 0);
        x.addConstraint(2, 0, 1, 2, 0);
        x.saveSnapshot();
        x.setVariables(5);
        x.addParity(4, 0);
        x.addConstraint(1, 0, 1, 0, 0);
        x.addConstraint(2, 1, 2, 3, 0);
        x.addConstraint(3, 4, 3, 2, 0);
        x.addConstraint(0, 4, 0, 0, 0);
        type(x, "01,1,");
        Check.outcome(x::parse);
        type(x, "011,110");
        x.write(1);
        x.storeFlags(0, 16, 3);
        x.storeFlags(1, 3, 2);
        return x;
    }

    /**
     * An object with as much as there may be: eight relations, of the arities 1 to 4 and again 1 to 4, ten variables,
     * twenty constraints, 60 characters of input, 79 of output, and flags in all slots, in the last one none.
     */
    static BooleanConstraints full() {
        BooleanConstraints x = new BooleanConstraints();
        x.setVariables(10);
        for (int arity = 1; arity <= 4; arity++) {
            x.addClause(arity, arity % 2);
        }
        x.addParity(1, 1);
        x.addParity(2, 0);
        x.addParity(3, 1);
        x.define(4, 0, 1, 2, 3);
        for (int i = 0; i < 20; i++) {
            x.addConstraint(i % 8, (i + 4) % 10, (i + 7) % 10, (i + 9) % 10, i % 10);
        }
        x.saveSnapshot();
        Check.outcome(x::parse);
        type(x, LONGEST_TEXT);
        x.append(',');
        x.write(7);
        x.storeFlags(0, 16, 7);
        x.storeFlags(1, 16, 3);
        x.storeFlags(2, 0, 7);
        return x;
    }
}
