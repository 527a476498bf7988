/** Promises 17 to 28: operations. */
public final class OperationsTest {
    private static final Check CHECK = new Check("OperationsTest");
    private static final Class<IllegalArgumentException> ARGUMENT = IllegalArgumentException.class;
    private static final Class<IndexOutOfBoundsException> INDEX = IndexOutOfBoundsException.class;
    private static final Class<java.util.NoSuchElementException> NONE = java.util.NoSuchElementException.class;
    /** Arities with codes that no operation has; the last two are wrong by their arity alone. */
    private static final int[][] NO_OPERATIONS = {{1, -1}, {1, 4}, {2, -1}, {2, 16}, {3, -1}, {3, 256},
        {1, Integer.MIN_VALUE}, {2, Integer.MAX_VALUE}, {3, Integer.MIN_VALUE}, {0, 0}, {4, 0}, {-1, 0},
        {Integer.MIN_VALUE, 0}, {Integer.MAX_VALUE, 0}, {33, 1}, {32, 0}};

    /** The relation of two values of which the first is not greater: monotone operations preserve it. */
    private static final Whole.Start ORDER = () -> Given.object(2, 0b00, 0b10, 0b11);
    private static final Whole.Start ONE_OF_THREE = () -> Given.object(3, 1, 2, 4);

    private interface OperationCall {
        Object answer(BooleanConstraints x, int arity, int code);
    }

    public static void main(String[] args) {
        apply();
        preserves();
        isPolymorphism();
        polymorphismCount();
        polymorphism();
        isIdempotent();
        isMonotone();
        projectedArgument();
        close();
        closeRefused();
        closuresAreLeast();
        dual();
        dependsOn();
        compose();
        CHECK.end();
    }

    private static int codes(int arity) {
        return 1 << (1 << arity);
    }

    private static void refusesNoOperations(Whole.Start start, String what, OperationCall call) {
        for (int[] wrong : NO_OPERATIONS) {
            CHECK.refuses(start, what + " for " + wrong[0] + " and " + wrong[1], ARGUMENT,
                x -> call.answer(x, wrong[0], wrong[1]));
        }
    }

    private static void apply() {
        for (int arity = 1; arity <= 3; arity++) {
            for (int code = 0; code < codes(arity); code++) {
                BooleanConstraints x = new BooleanConstraints();
                for (int i = 0; i < 8; i++) {
                    int bit = i % (1 << arity);
                    CHECK.equal("17: value", x.apply(arity, code, i & 1, i >> 1 & 1, i >> 2), code >> bit & 1);
                }
            }
        }
        refusesNoOperations(Given.NEW, "17: operation", (x, arity, code) -> x.apply(arity, code, 0, 0, 0));
        for (int wrong : new int[] {-1, 2, Integer.MIN_VALUE, Integer.MAX_VALUE}) {
            CHECK.refuses(Given.NEW, "17: x", ARGUMENT, x -> x.apply(3, 0, wrong, 0, 0));
            CHECK.refuses(Given.NEW, "17: y", ARGUMENT, x -> x.apply(3, 0, 0, wrong, 0));
            CHECK.refuses(Given.NEW, "17: z", ARGUMENT, x -> x.apply(3, 0, 0, 0, wrong));
            CHECK.refuses(Given.NEW, "17: y that does not count", ARGUMENT, x -> x.apply(1, 0, 0, wrong, 0));
            CHECK.refuses(Given.NEW, "17: z that does not count", ARGUMENT, x -> x.apply(2, 0, 0, 0, wrong));
        }
    }

    private static void preserves() {
        BooleanConstraints x = Given.object(2, 0b01, 0b10);
        CHECK.isFalse("18: minimum", x.preserves(2, 8, 0));
        CHECK.isFalse("18: maximum", x.preserves(2, 14, 0));
        CHECK.isTrue("18: the opposite", x.preserves(1, 1, 0));
        CHECK.isFalse("18: constant", x.preserves(1, 3, 0));
        CHECK.isTrue("18: majority", x.preserves(3, 232, 0));
        CHECK.isTrue("18: sum of three", x.preserves(3, 150, 0));
        CHECK.isFalse("18: sum of two", x.preserves(2, 6, 0));
        // Only the third argument brings in what is missing.
        CHECK.isFalse("18: first and not third", x.preserves(3, 0x0A, 0));
        for (int code = 0; code < 256; code++) {
            BooleanConstraints order = ORDER.make();
            order.addRelation(4);
            CHECK.equal("18: the order and " + code, order.preserves(3, code, 0), order.isMonotone(3, code));
            CHECK.isTrue("18: no tuples", order.preserves(3, code, 1));
        }
        refusesNoOperations(ORDER, "18: operation", (y, arity, code) -> y.preserves(arity, code, 0));
        refusesNoOperations(ORDER, "18: operation before relation", (y, arity, code) -> y.preserves(arity, code, 1));
        CHECK.refuses(ORDER, "18: relation", INDEX, y -> y.preserves(3, 255, 1));
        CHECK.refuses(ORDER, "18: relation", INDEX, y -> y.preserves(1, 0, -1));
    }

    private static void isPolymorphism() {
        BooleanConstraints x = new BooleanConstraints();
        for (int arity = 1; arity <= 3; arity++) {
            for (int code = 0; code < codes(arity); code++) {
                CHECK.isTrue("19: no relations", x.isPolymorphism(arity, code));
            }
        }
        x.addClause(2, 0);
        CHECK.isTrue("19: maximum", x.isPolymorphism(2, 14));
        CHECK.isFalse("19: minimum", x.isPolymorphism(2, 8));
        x.addClause(2, 3);
        CHECK.isFalse("19: the last relation counts", x.isPolymorphism(2, 14));
        CHECK.isFalse("19: the first relation counts", x.isPolymorphism(2, 8));
        CHECK.isTrue("19: majority", x.isPolymorphism(3, 232));
        refusesNoOperations(ORDER, "19: operation", BooleanConstraints::isPolymorphism);
    }

    private static void polymorphismCount() {
        BooleanConstraints x = new BooleanConstraints();
        CHECK.equal("20: all of arity 1", x.polymorphismCount(1), 4);
        CHECK.equal("20: all of arity 2", x.polymorphismCount(2), 16);
        CHECK.equal("20: all of arity 3", x.polymorphismCount(3), 256);
        BooleanConstraints order = ORDER.make();
        CHECK.equal("20: monotone of arity 1", order.polymorphismCount(1), 3);
        CHECK.equal("20: monotone of arity 2", order.polymorphismCount(2), 6);
        CHECK.equal("20: monotone of arity 3", order.polymorphismCount(3), 20);
        BooleanConstraints one = ONE_OF_THREE.make();
        CHECK.equal("20: the projections alone, 1", one.polymorphismCount(1), 1);
        CHECK.equal("20: the projections alone, 2", one.polymorphismCount(2), 2);
        CHECK.equal("20: the projections alone, 3", one.polymorphismCount(3), 3);
        for (int wrong : new int[] {0, 4, -1, 32, Integer.MIN_VALUE, Integer.MAX_VALUE}) {
            CHECK.refuses(ONE_OF_THREE, "20: arity", ARGUMENT, y -> y.polymorphismCount(wrong));
        }
    }

    private static void polymorphism() {
        BooleanConstraints x = new BooleanConstraints();
        for (int code = 0; code < 256; code++) {
            CHECK.equal("21: all", x.polymorphism(3, code), code);
        }
        CHECK.fails("21: behind the last", NONE, () -> x.polymorphism(3, 256));
        BooleanConstraints order = ORDER.make();
        int[] monotone = {0, 8, 10, 12, 14, 15};
        for (int i = 0; i < 6; i++) {
            CHECK.equal("21: monotone", order.polymorphism(2, i), monotone[i]);
        }
        CHECK.refuses(ORDER, "21: behind the last", NONE, y -> y.polymorphism(2, 6));
        CHECK.refuses(ORDER, "21: negative", NONE, y -> y.polymorphism(2, -1));
        CHECK.refuses(ORDER, "21: least", NONE, y -> y.polymorphism(1, Integer.MIN_VALUE));
        CHECK.refuses(ORDER, "21: greatest", NONE, y -> y.polymorphism(1, Integer.MAX_VALUE));
        for (int wrong : new int[] {0, 4, -1, Integer.MIN_VALUE, Integer.MAX_VALUE}) {
            CHECK.refuses(ORDER, "21: arity", ARGUMENT, y -> y.polymorphism(wrong, 0));
            CHECK.refuses(ORDER, "21: arity before index", ARGUMENT, y -> y.polymorphism(wrong, -1));
        }
    }

    private static void isIdempotent() {
        for (int arity = 1; arity <= 3; arity++) {
            for (int code = 0; code < codes(arity); code++) {
                BooleanConstraints x = new BooleanConstraints();
                boolean due = x.apply(arity, code, 0, 0, 0) == 0 && x.apply(arity, code, 1, 1, 1) == 1;
                CHECK.equal("22: arity " + arity + " code " + code, x.isIdempotent(arity, code), due);
            }
        }
        CHECK.isTrue("22: minimum", new BooleanConstraints().isIdempotent(2, 8));
        CHECK.isFalse("22: sum of two", new BooleanConstraints().isIdempotent(2, 6));
        CHECK.isTrue("22: identity", new BooleanConstraints().isIdempotent(1, 2));
        refusesNoOperations(Given.NEW, "22: operation", BooleanConstraints::isIdempotent);
    }

    private static void isMonotone() {
        BooleanConstraints x = new BooleanConstraints();
        int[] counts = {0, 3, 6, 20};
        for (int arity = 1; arity <= 3; arity++) {
            int count = 0;
            for (int code = 0; code < codes(arity); code++) {
                boolean due = true;
                for (int low = 0; low < 1 << arity; low++) {
                    for (int high = 0; high < 1 << arity; high++) {
                        due &= (low & ~high) != 0 || (code >> low & 1) <= (code >> high & 1);
                    }
                }
                CHECK.equal("23: arity " + arity + " code " + code, x.isMonotone(arity, code), due);
                count += due ? 1 : 0;
            }
            CHECK.equal("23: count of arity " + arity, count, counts[arity]);
        }
        refusesNoOperations(Given.NEW, "23: operation", BooleanConstraints::isMonotone);
    }

    private static void projectedArgument() {
        BooleanConstraints x = new BooleanConstraints();
        int[][] due = {{}, {2}, {10, 12}, {170, 204, 240}};
        for (int arity = 1; arity <= 3; arity++) {
            for (int code = 0; code < codes(arity); code++) {
                int found = -1;
                for (int argument = 0; argument < arity; argument++) {
                    found = due[arity][argument] == code ? argument : found;
                }
                final int askedArity = arity;
                final int askedCode = code;
                if (found >= 0) {
                    CHECK.equal("24: argument", x.projectedArgument(arity, code), found);
                } else {
                    CHECK.fails("24: no argument", NONE, () -> x.projectedArgument(askedArity, askedCode));
                }
            }
        }
        refusesNoOperations(Given.NEW, "24: operation", BooleanConstraints::projectedArgument);
    }

    private static void close() {
        BooleanConstraints x = Given.object(3, 0b011, 0b101, 0b110);
        CHECK.equal("25: minimum", x.close(0, 2, 8), 7);
        CHECK.equal("25: tuples", Whole.tuples(x, 0), 0x7F);
        CHECK.equal("25: again", x.close(0, 2, 8), 7);
        BooleanConstraints y = Given.object(4, 0b0001, 0b0010, 0b0100, 0b1000);
        CHECK.equal("25: sum of three", y.close(0, 3, 150), 8);
        CHECK.equal("25: odd tuples", Whole.tuples(y, 0), 1 << 1 | 1 << 2 | 1 << 4 | 1 << 7 | 1 << 8 | 1 << 11
            | 1 << 13 | 1 << 14);
        CHECK.equal("25: sum of two", y.close(0, 2, 6), 16);
        BooleanConstraints z = Given.object(2);
        CHECK.equal("25: no tuples", z.close(0, 1, 3), 0);
        CHECK.equal("25: no tuples", z.close(0, 3, 255), 0);
        z.addTuple(0, 1);
        CHECK.equal("25: constant", z.close(0, 1, 3), 2);
        CHECK.equal("25: constant", Whole.tuples(z, 0), 0b1010);
        CHECK.equal("25: not and", z.close(0, 2, 7), 4);
    }

    private static void closeRefused() {
        CHECK.refuses(ORDER, "25: relation", INDEX, x -> x.close(1, 1, 0));
        CHECK.refuses(ORDER, "25: relation", INDEX, x -> x.close(-1, 1, 0));
        refusesNoOperations(ORDER, "25: operation", (x, arity, code) -> x.close(0, arity, code));
        for (int[] wrong : NO_OPERATIONS) {
            CHECK.refuses(ORDER, "25: relation before operation", INDEX, x -> x.close(1, wrong[0], wrong[1]));
        }
    }

    /** The closure is preserved, holds the relation, and lies within each preserved set that holds it. */
    private static void closuresAreLeast() {
        for (int code = 0; code < 256; code += 3) {
            boolean[] preserved = new boolean[256];
            for (int set = 0; set < 256; set++) {
                preserved[set] = Given.objectOfSet(3, set).preserves(3, code, 0);
            }
            for (int set = 0; set < 256; set += 7) {
                int due = 255;
                for (int upper = 0; upper < 256; upper++) {
                    due &= preserved[upper] && (set & ~upper) == 0 ? upper : 255;
                }
                BooleanConstraints x = Given.objectOfSet(3, set);
                CHECK.equal("25: count for " + code, x.close(0, 3, code), Integer.bitCount(due));
                CHECK.equal("25: closure for " + code, Whole.tuples(x, 0), due);
            }
        }
    }

    private static void dual() {
        CHECK.equal("26: minimum", new BooleanConstraints().dual(2, 8), 14);
        CHECK.equal("26: majority", new BooleanConstraints().dual(3, 232), 232);
        CHECK.equal("26: constant", new BooleanConstraints().dual(1, 0), 3);
        for (int arity = 1; arity <= 3; arity++) {
            for (int code = 0; code < codes(arity); code++) {
                BooleanConstraints x = new BooleanConstraints();
                int dual = x.dual(arity, code);
                for (int i = 0; i < 8; i++) {
                    int here = x.apply(arity, dual, i & 1, i >> 1 & 1, i >> 2);
                    int there = x.apply(arity, code, 1 - (i & 1), 1 - (i >> 1 & 1), 1 - (i >> 2));
                    CHECK.equal("26: value", here, 1 - there);
                }
            }
        }
        refusesNoOperations(Given.NEW, "26: operation", BooleanConstraints::dual);
    }

    private static void dependsOn() {
        for (int arity = 1; arity <= 3; arity++) {
            for (int code = 0; code < codes(arity); code++) {
                dependsOnEach(arity, code);
            }
        }
        CHECK.refuses(Given.NEW, "27: argument", INDEX, x -> x.dependsOn(1, 0, Integer.MIN_VALUE));
        CHECK.refuses(Given.NEW, "27: argument", INDEX, x -> x.dependsOn(3, 0, Integer.MAX_VALUE));
        refusesNoOperations(Given.NEW, "27: operation", (x, arity, code) -> x.dependsOn(arity, code, 0));
        refusesNoOperations(Given.NEW, "27: operation before argument",
            (x, arity, code) -> x.dependsOn(arity, code, 3));
    }

    private static void dependsOnEach(int arity, int code) {
        BooleanConstraints x = new BooleanConstraints();
        for (int argument = 0; argument < arity; argument++) {
            boolean due = false;
            for (int i = 0; i < 1 << arity; i++) {
                due |= (code >> i & 1) != (code >> (i ^ 1 << argument) & 1);
            }
            CHECK.equal("27: code " + code, x.dependsOn(arity, code, argument), due);
        }
        CHECK.fails("27: argument", INDEX, () -> x.dependsOn(arity, code, arity));
        CHECK.fails("27: argument", INDEX, () -> x.dependsOn(arity, code, -1));
    }

    private static void compose() {
        BooleanConstraints x = new BooleanConstraints();
        CHECK.equal("28: minimum of maximum", x.compose(2, 8, 14), 14);
        CHECK.equal("28: sums", x.compose(3, 150, 6), 0);
        CHECK.equal("28: the first argument", x.compose(3, 170, 10), 10);
        CHECK.equal("28: the second argument", x.compose(3, 204, 10), 12);
        CHECK.equal("28: the third argument", x.compose(3, 240, 8), 10);
        CHECK.equal("28: the opposite", x.compose(1, 1, 8), 7);
        for (int arity = 1; arity <= 3; arity++) {
            for (int code = 0; code < codes(arity); code++) {
                for (int inner = 0; inner < 16; inner++) {
                    composes(arity, code, inner);
                }
            }
        }
        for (int wrong : new int[] {-1, 16, Integer.MIN_VALUE, Integer.MAX_VALUE}) {
            CHECK.refuses(Given.NEW, "28: inner", ARGUMENT, y -> y.compose(1, 0, wrong));
        }
        refusesNoOperations(Given.NEW, "28: operation", (y, arity, code) -> y.compose(arity, code, 0));
    }

    private static void composes(int arity, int code, int inner) {
        BooleanConstraints x = new BooleanConstraints();
        int due = 0;
        for (int b = 0; b <= 1; b++) {
            for (int a = 0; a <= 1; a++) {
                int value = x.apply(arity, code, x.apply(2, inner, a, b, 0), x.apply(2, inner, b, a, 0),
                    x.apply(2, inner, a, a, 0));
                due |= value << (a + 2 * b);
            }
        }
        CHECK.equal("28: arity " + arity + " code " + code + " inner " + inner, x.compose(arity, code, inner), due);
    }
}
