/** Promises 29 to 31: kinds. */
public final class KindsTest {
    private static final Check CHECK = new Check("KindsTest");
    private static final Class<IllegalArgumentException> ARGUMENT = IllegalArgumentException.class;
    private static final Class<IndexOutOfBoundsException> INDEX = IndexOutOfBoundsException.class;
    private static final Class<java.util.NoSuchElementException> NONE = java.util.NoSuchElementException.class;
    private static final int[] NO_KINDS = {-1, 6, Integer.MIN_VALUE, Integer.MAX_VALUE};

    private static final Whole.Start TWO_RELATIONS = () -> {
        BooleanConstraints x = Given.objectOfSet(2, 0b0110);
        x.addClause(1, 1);
        return x;
    };
    private static final Whole.Start HARD = () -> Given.objectOfSet(3, 1 << 1 | 1 << 2 | 1 << 4);

    public static void main(String[] args) {
        relationHasKind();
        hasKind();
        lowestKind();
        CHECK.end();
    }

    /** Each kind told by the values of its operation on whole tuples, not by a code. */
    private static int valueOfKind(int kind, int a, int b, int c, int ones) {
        switch (kind) {
            case 0: return 0;
            case 1: return ones;
            case 2: return a & b;
            case 3: return a | b;
            case 4: return a & b | a & c | b & c;
            default: return a ^ b ^ c;
        }
    }

    private static boolean hasKind(int arity, int set, int kind) {
        int ones = (1 << arity) - 1;
        for (int i = 0; i < 1 << 3 * arity; i++) {
            int a = i & ones;
            int b = i >> arity & ones;
            int c = i >> 2 * arity;
            boolean inside = (set >> a & set >> b & set >> c & 1) != 0;
            if (inside && (set >> valueOfKind(kind, a, b, c, ones) & 1) == 0) {
                return false;
            }
        }
        return true;
    }

    private static void relationHasKind() {
        for (int set = 0; set < 256; set++) {
            BooleanConstraints x = Given.objectOfSet(3, set);
            for (int kind = 0; kind < 6; kind++) {
                CHECK.equal("29: set " + set + " kind " + kind, x.relationHasKind(0, kind), hasKind(3, set, kind));
            }
        }
        for (int set = 0; set < 65536; set += 251) {
            BooleanConstraints x = Given.objectOfSet(4, set);
            for (int kind = 0; kind < 6; kind++) {
                CHECK.equal("29: set " + set + " kind " + kind, x.relationHasKind(0, kind), hasKind(4, set, kind));
            }
        }
        CHECK.isTrue("29: the relation alone counts", TWO_RELATIONS.make().relationHasKind(1, 0));
        CHECK.isFalse("29: the relation alone counts", TWO_RELATIONS.make().relationHasKind(0, 0));
        for (int wrong : NO_KINDS) {
            CHECK.refuses(TWO_RELATIONS, "29: kind", ARGUMENT, x -> x.relationHasKind(0, wrong));
            CHECK.refuses(TWO_RELATIONS, "29: relation before kind", INDEX, x -> x.relationHasKind(2, wrong));
        }
        CHECK.refuses(TWO_RELATIONS, "29: relation", INDEX, x -> x.relationHasKind(2, 0));
        CHECK.refuses(TWO_RELATIONS, "29: relation", INDEX, x -> x.relationHasKind(-1, 5));
    }

    private static void hasKind() {
        BooleanConstraints x = new BooleanConstraints();
        for (int kind = 0; kind < 6; kind++) {
            CHECK.isTrue("30: no relations", x.hasKind(kind));
        }
        x.addRelation(3);
        for (int kind = 0; kind < 6; kind++) {
            CHECK.isTrue("30: no tuples", x.hasKind(kind));
        }
        x.addClause(2, 3);
        x.addClause(2, 0);
        boolean[] due = {false, false, false, false, true, false};
        for (int kind = 0; kind < 6; kind++) {
            CHECK.equal("30: two clauses", x.hasKind(kind), due[kind]);
        }
        x.removeTuple(1, 0);
        x.removeTuple(2, 3);
        CHECK.isTrue("30: the relations as they are now", x.hasKind(5));
        for (int wrong : NO_KINDS) {
            CHECK.refuses(TWO_RELATIONS, "30: kind", ARGUMENT, y -> y.hasKind(wrong));
        }
    }

    private static void lowestKind() {
        CHECK.equal("31: no relations", new BooleanConstraints().lowestKind(), 0);
        CHECK.equal("31: constant 0", Given.objectOfSet(2, 0b0001).lowestKind(), 0);
        CHECK.equal("31: constant 1", Given.objectOfSet(2, 0b1110).lowestKind(), 1);
        CHECK.equal("31: minimum", withUnits(0b00010111, 3).lowestKind(), 2);
        CHECK.equal("31: maximum", withUnits(0b11101000, 3).lowestKind(), 3);
        CHECK.equal("31: minimum before maximum", withUnits(0b1101, 2).lowestKind(), 2);
        CHECK.equal("31: majority", Given.objectOfSet(2, 0b0110).lowestKind(), 4);
        BooleanConstraints sum = Given.objectOfSet(3, 0b10010110);
        sum.addParity(2, 1);
        CHECK.equal("31: sum", sum.lowestKind(), 5);
        CHECK.refuses(HARD, "31: none", NONE, BooleanConstraints::lowestKind);
        BooleanConstraints hard = HARD.make();
        hard.clear();
        CHECK.equal("31: easy again", hard.lowestKind(), 0);
    }

    /** A relation beside the two of arity 1 that keep both constants away. */
    private static BooleanConstraints withUnits(int set, int arity) {
        BooleanConstraints x = Given.objectOfSet(arity, set);
        x.addClause(1, 0);
        x.addClause(1, 1);
        return x;
    }
}
