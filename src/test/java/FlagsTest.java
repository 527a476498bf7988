/** Promises 51 to 53: flags. */
public final class FlagsTest {
    private static final Check CHECK = new Check("FlagsTest");
    private static final Class<IllegalArgumentException> ARGUMENT = IllegalArgumentException.class;
    private static final Class<IllegalStateException> STATE = IllegalStateException.class;
    private static final Class<IndexOutOfBoundsException> INDEX = IndexOutOfBoundsException.class;
    private static final int[] NO_SLOTS = {-1, 3, Integer.MIN_VALUE, Integer.MAX_VALUE};
    private static final int[] NO_LENGTHS = {-1, 17, 32, Integer.MIN_VALUE, Integer.MAX_VALUE};

    private static final Whole.Start ONE_RELATION = () -> Given.object(4, 1, 2, 15);
    /** An array as long as may be, a short one, and one without elements. */
    private static final Whole.Start ARRAY_OF_EACH_LENGTH = () -> {
        BooleanConstraints x = ONE_RELATION.make();
        x.storeFlags(0, 16, 0);
        x.storeFlags(1, 3, 0);
        x.storeFlags(2, 0, 0);
        return x;
    };

    public static void main(String[] args) {
        storeFlags();
        storeFlagsRefused();
        setFlag();
        setFlagRefused();
        takeFlags();
        takeFlagsRefused();
        CHECK.end();
    }

    private static int element(BooleanConstraints x, int slot, int index) {
        boolean value = x.setFlag(slot, index, false);
        x.setFlag(slot, index, value);
        return value ? 1 : 0;
    }

    private static void storeFlags() {
        for (int arity = 1; arity <= 4; arity++) {
            for (int length = 0; length <= 16; length++) {
                BooleanConstraints x = new BooleanConstraints();
                x.addClause(arity, 1);
                int slot = length % 3;
                int due = 0;
                for (int i = 0; i < length; i++) {
                    due += i < 1 << arity && i != 1 ? 1 : 0;
                }
                CHECK.equal("51: count", x.storeFlags(slot, length, 0), due);
                for (int i = 0; i < length; i++) {
                    CHECK.equal("51: element", element(x, slot, i), i < 1 << arity && i != 1 ? 1 : 0);
                }
                final int asked = length;
                CHECK.fails("51: the length", INDEX, () -> x.setFlag(slot, asked, true));
                CHECK.fails("51: the other slots stay", STATE, () -> x.setFlag((slot + 1) % 3, 0, true));
            }
        }
        BooleanConstraints x = new BooleanConstraints();
        x.addParity(4, 1);
        x.addRelation(4);
        x.storeFlags(2, 16, 0);
        CHECK.equal("51: replaced", x.storeFlags(2, 3, 1), 0);
        x.storeFlags(2, 16, 0);
        x.clear();
        x.addRelation(4);
        CHECK.equal("51: a copy", x.takeFlags(2, 0), 8);
    }

    private static void storeFlagsRefused() {
        for (Whole.Start start : new Whole.Start[] {ONE_RELATION, ARRAY_OF_EACH_LENGTH}) {
            for (int wrong : NO_LENGTHS) {
                CHECK.refuses(start, "51: length", ARGUMENT, x -> x.storeFlags(0, wrong, 0));
                CHECK.refuses(start, "51: relation before length", INDEX, x -> x.storeFlags(0, wrong, 1));
                CHECK.refuses(start, "51: slot before length", INDEX, x -> x.storeFlags(3, wrong, 0));
            }
            for (int wrong : NO_SLOTS) {
                CHECK.refuses(start, "51: slot", INDEX, x -> x.storeFlags(wrong, 1, 0));
            }
            CHECK.refuses(start, "51: relation", INDEX, x -> x.storeFlags(0, 1, 1));
            CHECK.refuses(start, "51: relation", INDEX, x -> x.storeFlags(0, 1, -1));
        }
    }

    private static void setFlag() {
        BooleanConstraints x = new BooleanConstraints();
        x.addRelation(1);
        x.storeFlags(1, 16, 0);
        for (int i = 0; i < 16; i++) {
            CHECK.isFalse("52: false before", x.setFlag(1, i, true));
            CHECK.isTrue("52: true before", x.setFlag(1, i, true));
            CHECK.isTrue("52: true before", x.setFlag(1, i, false));
            CHECK.isFalse("52: false before", x.setFlag(1, i, false));
        }
        CHECK.equal("52: the relation stays", x.tupleCount(0), 0);
    }

    private static void setFlagRefused() {
        for (int wrong : NO_SLOTS) {
            CHECK.refuses(ONE_RELATION, "52: slot", INDEX, x -> x.setFlag(wrong, 0, true));
            CHECK.refuses(ARRAY_OF_EACH_LENGTH, "52: slot", INDEX, x -> x.setFlag(wrong, 0, true));
        }
        CHECK.refuses(ONE_RELATION, "52: empty", STATE, x -> x.setFlag(0, 0, true));
        CHECK.refuses(ONE_RELATION, "52: empty before the element", STATE, x -> x.setFlag(2, -1, true));
        for (int wrong : new int[] {-1, 16, 32, Integer.MIN_VALUE, Integer.MAX_VALUE}) {
            for (boolean value : new boolean[] {false, true}) {
                CHECK.refuses(ARRAY_OF_EACH_LENGTH, "52: element", INDEX, x -> x.setFlag(0, wrong, value));
                CHECK.refuses(ARRAY_OF_EACH_LENGTH, "52: element", INDEX, x -> x.setFlag(1, wrong, value));
            }
        }
        CHECK.refuses(ARRAY_OF_EACH_LENGTH, "52: behind the last element", INDEX, x -> x.setFlag(1, 3, true));
        CHECK.refuses(ARRAY_OF_EACH_LENGTH, "52: an array without elements is no empty slot", INDEX,
            x -> x.setFlag(2, 0, true));
    }

    private static void takeFlags() {
        BooleanConstraints x = new BooleanConstraints();
        for (int arity = 1; arity <= 4; arity++) {
            x.addRelation(arity);
        }
        x.addParity(4, 0);
        x.storeFlags(0, 16, 4);
        int even = Whole.tuples(x, 4);
        for (int arity = 1; arity <= 4; arity++) {
            CHECK.equal("53: count", x.takeFlags(0, arity - 1), 1 << (arity - 1));
            CHECK.equal("53: tuples", Whole.tuples(x, arity - 1), even & ((1 << (1 << arity)) - 1));
        }
        x.storeFlags(1, 4, 4);
        x.setFlag(1, 1, true);
        CHECK.equal("53: beyond the array", x.takeFlags(1, 4), 3);
        CHECK.equal("53: beyond the array", Whole.tuples(x, 4), 0b1011);
        CHECK.equal("53: the array stays", x.takeFlags(0, 4), 8);
        x.storeFlags(2, 0, 4);
        CHECK.equal("53: an array without elements", x.takeFlags(2, 4), 0);
        x.storeFlags(2, 16, 4);
        x.setFlag(2, 15, true);
        CHECK.equal("53: an element beyond the tuples is ignored", x.takeFlags(2, 2), 0);
        CHECK.equal("53: and is there all the same", x.takeFlags(2, 4), 1);
    }

    private static void takeFlagsRefused() {
        for (int wrong : NO_SLOTS) {
            CHECK.refuses(ARRAY_OF_EACH_LENGTH, "53: slot", INDEX, x -> x.takeFlags(wrong, 0));
        }
        CHECK.refuses(ARRAY_OF_EACH_LENGTH, "53: relation", INDEX, x -> x.takeFlags(0, 1));
        CHECK.refuses(ARRAY_OF_EACH_LENGTH, "53: relation", INDEX, x -> x.takeFlags(0, -1));
        CHECK.refuses(Given.NEW, "53: relation before empty", INDEX, x -> x.takeFlags(0, 0));
        CHECK.refuses(ONE_RELATION, "53: empty", STATE, x -> x.takeFlags(0, 0));
        CHECK.equal("53: an array without elements is no empty slot", ARRAY_OF_EACH_LENGTH.make().takeFlags(2, 0), 0);
    }
}
