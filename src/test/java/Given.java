/** Objects and relations to begin with. */
final class Given {
    private Given() {
    }

    /** An object with one relation that has given tuples. */
    static BooleanConstraints object(int arity, int... tuples) {
        BooleanConstraints x = new BooleanConstraints();
        relation(x, arity, tuples);
        return x;
    }

    /** The number of a new relation that has given tuples. */
    static int relation(BooleanConstraints x, int arity, int... tuples) {
        int relation = x.addRelation(arity);
        for (int tuple : tuples) {
            x.addTuple(relation, tuple);
        }
        return relation;
    }

    /** An object with one relation that has the tuples of a set: bit t for tuple t. */
    static BooleanConstraints objectOfSet(int arity, int set) {
        BooleanConstraints x = object(arity);
        for (int tuple = 0; tuple < 1 << arity; tuple++) {
            if ((set >> tuple & 1) != 0) {
                x.addTuple(0, tuple);
            }
        }
        return x;
    }
}
