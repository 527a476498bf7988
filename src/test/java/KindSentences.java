/** The sentences of the promises 29 to 31: kinds. */
final class KindSentences extends Sentences {
    private static final String KIND_LINE = "- `kind`: the kind, 0 to 5";
    private static final String TRUE_LINE = "Returns true if it has.";
    private static final String NO_KIND = "Throws `IllegalArgumentException` if kind is out of range";

    /** A relation for each kind that has it, and one for each that does not: an arity, then the tuples. */
    private static final int[][] WITH_KIND = {{2, 0}, {2, 3}, {2, 0, 1}, {2, 1, 3}, {2, 1, 2}, {3, 1, 2, 4, 7}};
    private static final int[][] WITHOUT_KIND = {{2, 3}, {2, 0}, {2, 1, 2}, {2, 1, 2}, {3, 1, 2, 4}, {2, 0, 1, 2}};

    KindSentences(Check check) {
        super(check);
    }

    @Override
    void run() {
        relationHasKind();
        hasKind();
        lowestKind();
    }

    private static int add(BooleanConstraints x, int[] arityAndTuples) {
        int[] tuples = java.util.Arrays.copyOfRange(arityAndTuples, 1, arityAndTuples.length);
        return Given.relation(x, arityAndTuples[0], tuples);
    }

    private static BooleanConstraints of(int[]... relations) {
        BooleanConstraints x = new BooleanConstraints();
        for (int[] relation : relations) {
            add(x, relation);
        }
        return x;
    }

    /** Whether the operation of a kind, told on whole tuples, gives no tuple outside of a set. */
    static boolean isOfKind(int arity, int set, int kind) {
        int ones = (1 << arity) - 1;
        for (int i = 0; i < 1 << 3 * arity; i++) {
            int a = i & ones;
            int b = i >> arity & ones;
            int c = i >> 2 * arity;
            int[] given = {0, ones, a & b, a | b, a & b | a & c | b & c, a ^ b ^ c};
            if ((set >> a & set >> b & set >> c & 1) == 1 && (set >> given[kind] & 1) == 0) {
                return false;
            }
        }
        return true;
    }

    private void relationHasKind() {
        promise(29);
        says("Returns whether a relation has a kind.", () -> {
            for (int arity = 1; arity <= 3; arity++) {
                for (int set = 0; set < 1 << (1 << arity); set++) {
                    BooleanConstraints x = Given.objectOfSet(arity, set);
                    for (int kind = 0; kind < 6; kind++) {
                        equal(x.relationHasKind(0, kind), isOfKind(arity, set, kind));
                    }
                }
            }
            for (int set = 0; set < 65536; set += 1021) {
                BooleanConstraints x = Given.objectOfSet(4, set);
                for (int kind = 0; kind < 6; kind++) {
                    equal(x.relationHasKind(0, kind), isOfKind(4, set, kind));
                }
            }
            answers(Given.SOME, true, x -> x.relationHasKind(3, 5));
            answers(Given.FULL, true, x -> x.relationHasKind(7, 4));
        });
        says("- `relation`: the number of the relation", () -> {
            BooleanConstraints x = Given.numbered(8, 3);
            for (int relation = 0; relation < 8; relation++) {
                equal(x.relationHasKind(relation, 0), relation == 0);
                equal(x.relationHasKind(relation, 1), relation == 7);
            }
        });
        says(KIND_LINE, () -> {
            takes(0, 5, () -> Given.object(3, 1, 2, 4), ARGUMENT, (x, kind) -> x.relationHasKind(0, kind));
            takes(0, 5, () -> Given.object(1), ARGUMENT, (x, kind) -> x.relationHasKind(0, kind));
        });
        says(TRUE_LINE, () -> {
            for (int kind = 0; kind < 6; kind++) {
                isTrue(of(WITH_KIND[kind]).relationHasKind(0, kind));
                isFalse(of(WITHOUT_KIND[kind]).relationHasKind(0, kind));
            }
        });
        says("Throws `IndexOutOfBoundsException` if there is no such relation", () -> {
            for (int count : new int[] {0, 1, 8}) {
                takes(0, count - 1, () -> Given.numbered(count, 3), INDEX, (x, n) -> x.relationHasKind(n, 5));
            }
            takesNone(outside(0, 3), Given.SOME, INDEX, (x, n) -> x.relationHasKind(n, 0));
            takesNone(outside(0, 7), Given.FULL, INDEX, (x, n) -> x.relationHasKind(n, 6));
        });
        says(NO_KIND, () -> {
            takesNone(outside(0, 5), Given.SOME, ARGUMENT, (x, kind) -> x.relationHasKind(0, kind));
            takesNone(outside(0, 5), Given.FULL, ARGUMENT, (x, kind) -> x.relationHasKind(7, kind));
        });
    }

    private void hasKind() {
        promise(30);
        says("Returns whether the language has a kind.", () -> {
            for (int kind = 0; kind < 6; kind++) {
                final int asked = kind;
                answers(Given.NEW, true, x -> x.hasKind(asked));
                answers(Given.FULL, false, x -> x.hasKind(asked));
                for (int place = 0; place < 8; place++) {
                    int[][] relations = new int[8][];
                    java.util.Arrays.fill(relations, WITH_KIND[kind]);
                    isTrue(of(relations).hasKind(kind));
                    relations[place] = WITHOUT_KIND[kind];
                    isFalse(of(relations).hasKind(kind));
                }
            }
        });
        says(KIND_LINE, () -> {
            takes(0, 5, Given.NEW, ARGUMENT, BooleanConstraints::hasKind);
            takes(0, 5, () -> Given.object(3, 1, 2, 4), ARGUMENT, BooleanConstraints::hasKind);
        });
        says(TRUE_LINE, () -> {
            for (int kind = 0; kind < 6; kind++) {
                isTrue(of(WITH_KIND[kind]).hasKind(kind));
                isFalse(of(WITHOUT_KIND[kind]).hasKind(kind));
                isTrue(Given.object(4).hasKind(kind));
                isTrue(Given.objectOfSet(2, 15).hasKind(kind));
            }
        });
        says(NO_KIND, () -> {
            takesNone(outside(0, 5), Given.NEW, ARGUMENT, BooleanConstraints::hasKind);
            takesNone(outside(0, 5), Given.SOME, ARGUMENT, BooleanConstraints::hasKind);
            takesNone(outside(0, 5), Given.FULL, ARGUMENT, BooleanConstraints::hasKind);
        });
    }

    private void lowestKind() {
        promise(31);
        says("Returns the lowest kind of the language.", () -> {
            answers(Given.NEW, 0, BooleanConstraints::lowestKind);
            for (int set = 0; set < 256; set++) {
                BooleanConstraints x = Given.objectOfSet(3, set);
                String due = "throws NoSuchElementException";
                for (int kind = 5; kind >= 0; kind--) {
                    due = isOfKind(3, set, kind) ? String.valueOf(kind) : due;
                }
                equal(Check.outcome(x::lowestKind), due);
            }
            // Kind 2 of the one relation and kind 3 of the other make no kind of the language.
            equal(of(new int[] {2, 0, 1, 2}, new int[] {2, 1, 2, 3}).lowestKind(), 4);
        });
        says("Returns the kind, 0 to 5.", () -> {
            equal(of(new int[] {2, 0, 1}).lowestKind(), 0);
            equal(of(new int[] {2, 1, 3}).lowestKind(), 1);
            equal(of(new int[] {2, 0, 1}, new int[] {1, 1}).lowestKind(), 2);
            equal(of(new int[] {3, 1, 2, 3, 5, 6, 7}, new int[] {1, 0}).lowestKind(), 3);
            equal(of(new int[] {2, 1, 2}).lowestKind(), 4);
            equal(of(new int[] {3, 1, 2, 4, 7}, new int[] {2, 1, 2}).lowestKind(), 5);
        });
        says("Throws `NoSuchElementException` if the language is not easy", () -> {
            refuses(Given.SOME, NONE, BooleanConstraints::lowestKind);
            refuses(Given.FULL, NONE, BooleanConstraints::lowestKind);
            refuses(() -> Given.object(3, 1, 2, 4), NONE, BooleanConstraints::lowestKind);
            BooleanConstraints x = Given.object(3, 1, 2, 4);
            x.addTuple(0, 7);
            equal(x.lowestKind(), 1);
            x.removeTuple(0, 1);
            equal(x.lowestKind(), 1);
            x.removeTuple(0, 7);
            equal(x.lowestKind(), 4);
            x.clear();
            equal(x.lowestKind(), 0);
        });
    }
}
