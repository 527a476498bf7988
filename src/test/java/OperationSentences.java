/** The sentences of the promises 17 to 28: operations. */
final class OperationSentences extends Sentences {
    private static final String ARITY_LINE = "- `arity`: the arity of the operation, 1 to 3";
    private static final String CODE_LINE = "- `code`: the code of the operation";
    private static final String RELATION_LINE = "- `relation`: the number of the relation";
    private static final String NO_OPERATION = "Throws `IllegalArgumentException` if arity is out of range, or there "
        + "is no operation of this arity with this code";
    private static final String NO_ARITY = "Throws `IllegalArgumentException` if arity is out of range";
    private static final String NO_RELATION = "Throws `IndexOutOfBoundsException` if there is no such relation";

    /** The order: 00, 01 and 11, which the monotone operations preserve, and no others. */
    private static final Whole.Start ORDER = () -> Given.object(2, 0b00, 0b10, 0b11);
    /** One of three: only the projections preserve it. */
    private static final Whole.Start ONE_OF_THREE = () -> Given.object(3, 1, 2, 4);

    private interface OperationAct {
        Object on(BooleanConstraints x, int arity, int code);
    }

    OperationSentences(Check check) {
        super(check);
    }

    @Override
    void run() {
        apply();
        preserves();
        isPolymorphism();
        polymorphismCount();
        polymorphism();
        isIdempotent();
        isMonotone();
        projectedArgument();
        close();
        closeRefused();
        dual();
        dependsOn();
        compose();
    }

    private static int codes(int arity) {
        return 1 << (1 << arity);
    }

    private interface OfOperation {
        void of(int arity, int code);
    }

    private static void eachOperation(OfOperation test) {
        for (int arity = 1; arity <= 3; arity++) {
            for (int code = 0; code < codes(arity); code++) {
                test.of(arity, code);
            }
        }
    }

    /** The value by the words of the document: bit x + 2y + 4z, arguments that do not count taken as 0. */
    private static int value(int arity, int code, int x, int y, int z) {
        return code >> (x + (arity > 1 ? 2 * y : 0) + (arity > 2 ? 4 * z : 0)) & 1;
    }

    private void arityLine(String sentence, Whole.Start start, OperationAct act) {
        says(sentence, () -> {
            takes(1, 3, start, ARGUMENT, (x, arity) -> act.on(x, arity, 0));
            takes(1, 3, start, ARGUMENT, (x, arity) -> act.on(x, arity, 3));
        });
    }

    private void codeLine(String sentence, Whole.Start start, OperationAct act) {
        says(sentence, () -> {
            for (int arity = 1; arity <= 3; arity++) {
                final int asked = arity;
                takes(0, codes(arity) - 1, start, ARGUMENT, (x, code) -> act.on(x, asked, code));
            }
        });
    }

    private void noOperation(OperationAct act) {
        says(NO_OPERATION, () -> {
            for (Whole.Start start : new Whole.Start[] {Given.SOME, Given.FULL}) {
                takesNone(outside(1, 3), start, ARGUMENT, (x, arity) -> act.on(x, arity, 0));
                takesNone(outside(1, 3), start, ARGUMENT, (x, arity) -> act.on(x, arity, -1));
                takesNone(outside(0, 3), start, ARGUMENT, (x, code) -> act.on(x, 1, code));
                takesNone(outside(0, 15), start, ARGUMENT, (x, code) -> act.on(x, 2, code));
                takesNone(outside(0, 255), start, ARGUMENT, (x, code) -> act.on(x, 3, code));
            }
        });
    }

    private void noSuchRelation(ActWith act) {
        says(NO_RELATION, () -> {
            for (int count : new int[] {0, 1, 7, 8}) {
                takes(0, count - 1, () -> Given.numbered(count, 3), INDEX, act);
            }
            takesNone(outside(0, 3), Given.SOME, INDEX, act);
            takesNone(outside(0, 7), Given.FULL, INDEX, act);
        });
    }

    private void apply() {
        promise(17);
        says("Returns the value of an operation.", () -> {
            eachOperation((arity, code) -> {
                BooleanConstraints x = new BooleanConstraints();
                for (int i = 0; i < 8; i++) {
                    equal(x.apply(arity, code, i & 1, i >> 1 & 1, i >> 2),
                        value(arity, code, i & 1, i >> 1 & 1, i >> 2));
                }
            });
            answers(Given.SOME, 1, x -> x.apply(3, 128, 1, 1, 1));
        });
        arityLine(ARITY_LINE, Given.NEW, (x, arity, code) -> x.apply(arity, code, 0, 0, 0));
        codeLine(CODE_LINE, Given.NEW, (x, arity, code) -> x.apply(arity, code, 1, 1, 1));
        says("- `x`: the first argument, 0 or 1", () -> {
            for (int arity = 1; arity <= 3; arity++) {
                final int asked = arity;
                takes(0, 1, Given.NEW, ARGUMENT, (y, x) -> y.apply(asked, 2, x, 0, 0));
                equal(new BooleanConstraints().apply(arity, 2, 1, 0, 0), 1);
                equal(new BooleanConstraints().apply(arity, 2, 0, 0, 0), 0);
            }
        });
        says("- `y`: the second argument, 0 or 1; it must also be 0 or 1 if it does not count", () -> {
            for (int arity = 1; arity <= 3; arity++) {
                final int asked = arity;
                takes(0, 1, Given.NEW, ARGUMENT, (x, y) -> x.apply(asked, 1, 0, y, 0));
            }
            equal(new BooleanConstraints().apply(1, 1, 0, 1, 0), 1);
            equal(new BooleanConstraints().apply(2, 1, 0, 1, 0), 0);
            equal(new BooleanConstraints().apply(3, 4, 0, 1, 0), 1);
        });
        says("- `z`: the third argument, 0 or 1; it must also be 0 or 1 if it does not count", () -> {
            for (int arity = 1; arity <= 3; arity++) {
                final int asked = arity;
                takes(0, 1, Given.NEW, ARGUMENT, (x, z) -> x.apply(asked, 1, 0, 0, z));
            }
            equal(new BooleanConstraints().apply(1, 1, 0, 0, 1), 1);
            equal(new BooleanConstraints().apply(2, 1, 0, 0, 1), 1);
            equal(new BooleanConstraints().apply(3, 1, 0, 0, 1), 0);
            equal(new BooleanConstraints().apply(3, 16, 0, 0, 1), 1);
        });
        says("Returns the value, 0 or 1.", () -> {
            BooleanConstraints x = new BooleanConstraints();
            for (int arity = 1; arity <= 3; arity++) {
                for (int i = 0; i < 8; i++) {
                    equal(x.apply(arity, 0, i & 1, i >> 1 & 1, i >> 2), 0);
                    equal(x.apply(arity, codes(arity) - 1, i & 1, i >> 1 & 1, i >> 2), 1);
                }
            }
        });
        noOperation((x, arity, code) -> x.apply(arity, code, 1, 0, 1));
        says("Throws `IllegalArgumentException` if an argument is neither 0 nor 1", () -> {
            for (int arity = 1; arity <= 3; arity++) {
                final int asked = arity;
                takesNone(outside(0, 1), Given.SOME, ARGUMENT, (y, x) -> y.apply(asked, 0, x, 0, 0));
                takesNone(outside(0, 1), Given.SOME, ARGUMENT, (x, y) -> x.apply(asked, 0, 0, y, 0));
                takesNone(outside(0, 1), Given.SOME, ARGUMENT, (x, z) -> x.apply(asked, 0, 0, 0, z));
                takesNone(outside(0, 1), Given.FULL, ARGUMENT, (x, all) -> x.apply(asked, 0, all, all, all));
            }
        });
    }

    private void preserves() {
        promise(18);
        says("Returns whether an operation preserves a relation.", () -> {
            eachOperation((arity, code) -> {
                BooleanConstraints x = ORDER.make();
                equal(x.preserves(arity, code, 0), x.isMonotone(arity, code));
                BooleanConstraints zero = Given.object(1, 0);
                equal(zero.preserves(arity, code, 0), (code & 1) == 0);
                BooleanConstraints one = Given.object(4, 15);
                equal(one.preserves(arity, code, 0), code >= codes(arity) / 2);
                BooleanConstraints empty = Given.object(4);
                isTrue(empty.preserves(arity, code, 0));
                BooleanConstraints all = Given.objectOfSet(3, 255);
                isTrue(all.preserves(arity, code, 0));
            });
            answers(Given.SOME, true, x -> x.preserves(3, 150, 3));
            answers(Given.FULL, true, x -> x.preserves(3, 255, 7));
        });
        arityLine(ARITY_LINE, ORDER, (x, arity, code) -> x.preserves(arity, code, 0));
        codeLine(CODE_LINE, ORDER, (x, arity, code) -> x.preserves(arity, code, 0));
        says(RELATION_LINE, () -> {
            BooleanConstraints x = Given.numbered(8, 3);
            for (int relation = 0; relation < 8; relation++) {
                equal(x.preserves(1, 0, relation), relation == 0);
                equal(x.preserves(1, 3, relation), relation == 7);
            }
        });
        says("Returns true if it does.", () -> {
            isTrue(Given.object(2, 1, 2).preserves(1, 1, 0));
            isFalse(Given.object(2, 1, 3).preserves(1, 1, 0));
            isTrue(Given.object(4, 0).preserves(3, 0, 0));
            isFalse(Given.object(4, 0).preserves(3, 255, 0));
        });
        noOperation((x, arity, code) -> x.preserves(arity, code, 0));
        noSuchRelation((x, relation) -> x.preserves(3, 255, relation));
    }

    private void isPolymorphism() {
        promise(19);
        says("Returns whether an operation is a polymorphism of the language.", () -> {
            eachOperation((arity, code) -> {
                isTrue(new BooleanConstraints().isPolymorphism(arity, code));
                BooleanConstraints x = ORDER.make();
                Given.relation(x, 1, 0);
                Given.relation(x, 1, 1);
                equal(x.isPolymorphism(arity, code), x.isMonotone(arity, code) && x.isIdempotent(arity, code));
            });
            for (int relation = 0; relation < 8; relation++) {
                BooleanConstraints x = new BooleanConstraints();
                for (int i = 0; i < 8; i++) {
                    Given.relation(x, 2, i == relation ? 3 : 0);
                }
                isFalse(x.isPolymorphism(1, 0));
                isFalse(x.isPolymorphism(2, 15));
                isTrue(x.isPolymorphism(2, 14));
            }
            answers(Given.FULL, false, x -> x.isPolymorphism(3, 232));
        });
        arityLine(ARITY_LINE, ORDER, BooleanConstraints::isPolymorphism);
        codeLine(CODE_LINE, ORDER, BooleanConstraints::isPolymorphism);
        says("Returns true if it is.", () -> {
            isTrue(ORDER.make().isPolymorphism(2, 8));
            isFalse(ORDER.make().isPolymorphism(2, 6));
            isTrue(new BooleanConstraints().isPolymorphism(2, 6));
        });
        noOperation(BooleanConstraints::isPolymorphism);
    }

    private void polymorphismCount() {
        promise(20);
        says("Returns the number of polymorphisms of an arity.", () -> {
            int[] monotone = {0, 3, 6, 20};
            for (int arity = 1; arity <= 3; arity++) {
                final int asked = arity;
                answers(ORDER, monotone[arity], x -> x.polymorphismCount(asked));
                answers(Given.NEW, codes(arity), x -> x.polymorphismCount(asked));
                answers(ONE_OF_THREE, arity, x -> x.polymorphismCount(asked));
                BooleanConstraints x = Given.object(1, 0);
                equal(x.polymorphismCount(arity), codes(arity) / 2);
                Given.relation(x, 1, 1);
                equal(x.polymorphismCount(arity), codes(arity) / 4);
            }
        });
        says(ARITY_LINE, () -> takes(1, 3, ORDER, ARGUMENT, BooleanConstraints::polymorphismCount));
        says("Returns 1 to 256.", () -> {
            equal(ONE_OF_THREE.make().polymorphismCount(1), 1);
            equal(new BooleanConstraints().polymorphismCount(3), 256);
            BooleanConstraints x = new BooleanConstraints();
            for (int relation = 0; relation < 8; relation++) {
                Given.relation(x, 3, 1, 2, 4);
            }
            equal(x.polymorphismCount(1), 1);
            equal(x.polymorphismCount(3), 3);
            for (int relation = 0; relation < 8; relation++) {
                for (int tuple = 0; tuple < 8; tuple++) {
                    x.addTuple(relation, tuple);
                }
            }
            equal(x.polymorphismCount(3), 256);
        });
        says(NO_ARITY, () -> {
            takesNone(outside(1, 3), Given.SOME, ARGUMENT, BooleanConstraints::polymorphismCount);
            takesNone(outside(1, 3), Given.FULL, ARGUMENT, BooleanConstraints::polymorphismCount);
        });
    }

    private void polymorphism() {
        promise(21);
        says("Returns a polymorphism of an arity.", () -> {
            int[] monotone = {0, 8, 10, 12, 14, 15};
            for (int index = 0; index < 6; index++) {
                final int asked = index;
                answers(ORDER, monotone[index], x -> x.polymorphism(2, asked));
            }
            for (int index = 0; index < 3; index++) {
                equal(ONE_OF_THREE.make().polymorphism(3, index), new int[] {170, 204, 240}[index]);
            }
            equal(ORDER.make().polymorphism(1, 2), 3);
        });
        says("The polymorphisms of an arity are numbered from 0 in the order of their codes.", () -> {
            for (int arity = 1; arity <= 3; arity++) {
                int index = 0;
                BooleanConstraints x = ORDER.make();
                for (int code = 0; code < codes(arity); code++) {
                    if (x.isMonotone(arity, code)) {
                        equal(x.polymorphism(arity, index), code);
                        index++;
                    }
                }
                equal(x.polymorphismCount(arity), index);
            }
        });
        says(ARITY_LINE, () -> takes(1, 3, ORDER, ARGUMENT, (x, arity) -> x.polymorphism(arity, 0)));
        says("- `index`: the number of the polymorphism, from 0", () -> {
            for (int arity = 1; arity <= 3; arity++) {
                final int asked = arity;
                takes(0, codes(arity) - 1, Given.NEW, NONE, (x, index) -> x.polymorphism(asked, index));
                takes(0, arity - 1, ONE_OF_THREE, NONE, (x, index) -> x.polymorphism(asked, index));
            }
        });
        says("Returns the code.", () -> {
            eachOperation((arity, code) -> equal(new BooleanConstraints().polymorphism(arity, code), code));
        });
        says(NO_ARITY, () -> {
            takesNone(outside(1, 3), Given.SOME, ARGUMENT, (x, arity) -> x.polymorphism(arity, 0));
            takesNone(outside(1, 3), Given.FULL, ARGUMENT, (x, arity) -> x.polymorphism(arity, -1));
            takesNone(outside(1, 3), Given.NEW, ARGUMENT, (x, arity) -> x.polymorphism(arity, 256));
        });
        says("Throws `NoSuchElementException` if there is no such polymorphism", () -> {
            takesNone(outside(0, 2), ORDER, NONE, (x, index) -> x.polymorphism(1, index));
            takesNone(outside(0, 5), ORDER, NONE, (x, index) -> x.polymorphism(2, index));
            takesNone(outside(0, 19), ORDER, NONE, (x, index) -> x.polymorphism(3, index));
            takesNone(outside(0, 255), Given.NEW, NONE, (x, index) -> x.polymorphism(3, index));
            refuses(Given.FULL, NONE, x -> x.polymorphism(3, 256));
            refuses(Given.SOME, NONE, x -> x.polymorphism(3, -1));
        });
    }

    private void isIdempotent() {
        promise(22);
        says("Returns whether an operation is idempotent: for equal arguments its value is that of the "
            + "arguments.", () -> {
            eachOperation((arity, code) -> equal(new BooleanConstraints().isIdempotent(arity, code),
                value(arity, code, 0, 0, 0) == 0 && value(arity, code, 1, 1, 1) == 1));
            answers(Given.SOME, true, x -> x.isIdempotent(3, 128));
        });
        arityLine(ARITY_LINE, Given.NEW, BooleanConstraints::isIdempotent);
        codeLine(CODE_LINE, Given.NEW, BooleanConstraints::isIdempotent);
        says("Returns true if it is.", () -> {
            isTrue(new BooleanConstraints().isIdempotent(1, 2));
            isFalse(new BooleanConstraints().isIdempotent(1, 3));
            isFalse(new BooleanConstraints().isIdempotent(1, 0));
            isTrue(new BooleanConstraints().isIdempotent(3, 254));
            isFalse(new BooleanConstraints().isIdempotent(3, 255));
        });
        noOperation(BooleanConstraints::isIdempotent);
    }

    private void isMonotone() {
        promise(23);
        says("Returns whether an operation is monotone: its value does not become less if one of the arguments that "
            + "count changes from 0 to 1.", () -> {
            eachOperation((arity, code) -> {
                boolean due = true;
                for (int low = 0; low < 1 << arity; low++) {
                    for (int argument = 0; argument < arity; argument++) {
                        due &= (code >> low & 1) <= (code >> (low | 1 << argument) & 1);
                    }
                }
                equal(new BooleanConstraints().isMonotone(arity, code), due);
            });
            answers(Given.SOME, false, x -> x.isMonotone(3, 127));
        });
        arityLine(ARITY_LINE, Given.NEW, BooleanConstraints::isMonotone);
        codeLine(CODE_LINE, Given.NEW, BooleanConstraints::isMonotone);
        says("Returns true if it is.", () -> {
            for (int arity = 1; arity <= 3; arity++) {
                isTrue(new BooleanConstraints().isMonotone(arity, 0));
                isFalse(new BooleanConstraints().isMonotone(arity, 1));
                isTrue(new BooleanConstraints().isMonotone(arity, codes(arity) - 1));
                isFalse(new BooleanConstraints().isMonotone(arity, codes(arity) / 2 - 1));
            }
        });
        noOperation(BooleanConstraints::isMonotone);
    }

    private void projectedArgument() {
        promise(24);
        says("Returns the argument on which an operation always agrees: the value of the operation is the value of "
            + "that argument for all arguments.", () -> {
            eachOperation((arity, code) -> {
                String due = "throws NoSuchElementException";
                for (int argument = 0; argument < arity; argument++) {
                    boolean agrees = true;
                    for (int i = 0; i < 1 << arity; i++) {
                        agrees &= (code >> i & 1) == (i >> argument & 1);
                    }
                    due = agrees ? String.valueOf(argument) : due;
                }
                BooleanConstraints x = new BooleanConstraints();
                equal(Check.outcome(() -> x.projectedArgument(arity, code)), due);
            });
            answers(Given.SOME, 2, x -> x.projectedArgument(3, 240));
        });
        arityLine(ARITY_LINE, Given.NEW, BooleanConstraints::projectedArgument);
        codeLine(CODE_LINE, Given.NEW, BooleanConstraints::projectedArgument);
        says("Returns 0 for the first argument, 1 for the second one, 2 for the third one.", () -> {
            int[][] codes = {{}, {2}, {10, 12}, {170, 204, 240}};
            for (int arity = 1; arity <= 3; arity++) {
                for (int argument = 0; argument < arity; argument++) {
                    equal(new BooleanConstraints().projectedArgument(arity, codes[arity][argument]), argument);
                }
            }
        });
        noOperation(BooleanConstraints::projectedArgument);
        says("Throws `NoSuchElementException` if there is no such argument", () -> {
            for (int arity = 1; arity <= 3; arity++) {
                final int asked = arity;
                for (int code : new int[] {0, 1, codes(arity) - 1}) {
                    refuses(Given.SOME, NONE, x -> x.projectedArgument(asked, code));
                }
            }
            refuses(Given.FULL, NONE, x -> x.projectedArgument(2, 8));
            refuses(Given.FULL, NONE, x -> x.projectedArgument(3, 2));
            refuses(Given.FULL, NONE, x -> x.projectedArgument(3, 232));
        });
    }

    private void close() {
        promise(25);
        says("Replaces a relation by its closure under an operation.", () -> {
            eachOperation((arity, code) -> {
                // The closure of the tuple 01 under an operation holds what single tuples give, again and again.
                for (int start = 0; start < 4; start++) {
                    BooleanConstraints x = Given.object(2, start);
                    x.close(0, arity, code);
                    isTrue(x.contains(0, start));
                    isTrue(x.preserves(arity, code, 0));
                    equal(Whole.tuples(x, 0), leastClosed(1 << start, arity, code));
                }
            });
            BooleanConstraints x = Given.object(4, 1, 2, 4, 8);
            x.close(0, 2, 14);
            equal(Whole.tuples(x, 0), 0xFFFE);
            x.close(0, 2, 14);
            equal(Whole.tuples(x, 0), 0xFFFE);
            changesOnly(Given.SOME, y -> y.close(1, 2, 8), "relations", "instance");
            changesOnly(Given.SOME, y -> y.close(3, 3, 150));
        });
        says(RELATION_LINE, () -> {
            for (int relation = 0; relation < 8; relation++) {
                BooleanConstraints x = Given.numbered(8, 3);
                x.close(relation, 1, 1);
                for (int other = 0; other < 8; other++) {
                    equal(Whole.tuples(x, other), other == relation ? 1 << other | 1 << 7 - other : 1 << other);
                }
            }
        });
        arityLine(ARITY_LINE, ORDER, (x, arity, code) -> x.close(0, arity, code));
        codeLine(CODE_LINE, ORDER, (x, arity, code) -> x.close(0, arity, code));
        says("Returns the number of tuples of the closure.", () -> {
            equal(Given.object(4).close(0, 3, 255), 0);
            equal(Given.object(4, 9).close(0, 3, 128), 1);
            equal(Given.object(4, 1, 2, 4, 8).close(0, 2, 14), 15);
            equal(Given.object(4, 1, 2, 4, 8).close(0, 2, 6), 16);
            equal(Given.full().close(7, 3, 1), 16);
            equal(Given.object(1, 0).close(0, 1, 1), 2);
        });
    }

    /** The smallest set of tuples of arity 2 that holds a set and is preserved, by trying all sets. */
    private static int leastClosed(int set, int arity, int code) {
        int least = 15;
        for (int upper = 0; upper < 16; upper++) {
            if ((set & ~upper) == 0 && isClosed(upper, arity, code)) {
                least &= upper;
            }
        }
        return least;
    }

    private static boolean isClosed(int set, int arity, int code) {
        for (int i = 0; i < 64; i++) {
            int a = i & 3;
            int b = i >> 2 & 3;
            int c = i >> 4;
            int given = value(arity, code, a & 1, b & 1, c & 1) + 2 * value(arity, code, a >> 1, b >> 1, c >> 1);
            if ((set >> a & set >> b & set >> c & 1) == 1 && (set >> given & 1) == 0) {
                return false;
            }
        }
        return true;
    }

    private void closeRefused() {
        noSuchRelation((x, relation) -> x.close(relation, 1, 1));
        noOperation((x, arity, code) -> x.close(3, arity, code));
    }

    private void dual() {
        promise(26);
        says("Returns the dual of an operation: the operation whose value for any arguments is the opposite of the "
            + "value of the given one for the opposite arguments.", () -> {
            eachOperation((arity, code) -> {
                int dual = new BooleanConstraints().dual(arity, code);
                for (int i = 0; i < 8; i++) {
                    int here = value(arity, dual, i & 1, i >> 1 & 1, i >> 2);
                    equal(here, 1 - value(arity, code, 1 - (i & 1), 1 - (i >> 1 & 1), 1 - (i >> 2)));
                }
            });
            answers(Given.SOME, 14, x -> x.dual(2, 8));
        });
        arityLine(ARITY_LINE, Given.NEW, BooleanConstraints::dual);
        codeLine(CODE_LINE, Given.NEW, BooleanConstraints::dual);
        says("Returns the code of the dual, which has the same arity.", () -> {
            eachOperation((arity, code) -> {
                int dual = new BooleanConstraints().dual(arity, code);
                isTrue(dual >= 0 && dual < codes(arity));
                equal(new BooleanConstraints().dual(arity, dual), code);
            });
            for (int arity = 1; arity <= 3; arity++) {
                equal(new BooleanConstraints().dual(arity, 0), codes(arity) - 1);
                equal(new BooleanConstraints().dual(arity, codes(arity) - 1), 0);
            }
        });
        noOperation(BooleanConstraints::dual);
    }

    private void dependsOn() {
        promise(27);
        says("Returns whether the value of an operation depends on an argument: it differs for two choices of the "
            + "arguments that differ in this argument only.", () -> {
            eachOperation((arity, code) -> {
                for (int argument = 0; argument < arity; argument++) {
                    boolean due = false;
                    for (int i = 0; i < 1 << arity; i++) {
                        due |= (code >> i & 1) != (code >> (i ^ 1 << argument) & 1);
                    }
                    equal(new BooleanConstraints().dependsOn(arity, code, argument), due);
                }
            });
            answers(Given.SOME, true, x -> x.dependsOn(3, 128, 2));
        });
        arityLine(ARITY_LINE, Given.NEW, (x, arity, code) -> x.dependsOn(arity, code, 0));
        codeLine(CODE_LINE, Given.NEW, (x, arity, code) -> x.dependsOn(arity, code, 0));
        says("- `argument`: the argument, 0 to arity - 1", () -> {
            for (int arity = 1; arity <= 3; arity++) {
                final int asked = arity;
                takes(0, arity - 1, Given.NEW, INDEX, (x, argument) -> x.dependsOn(asked, 1, argument));
            }
        });
        says("Returns true if it does.", () -> {
            for (int argument = 0; argument < 3; argument++) {
                isTrue(new BooleanConstraints().dependsOn(3, 150, argument));
                isFalse(new BooleanConstraints().dependsOn(3, 255, argument));
                isFalse(new BooleanConstraints().dependsOn(3, 0, argument));
                equal(new BooleanConstraints().dependsOn(3, 240, argument), argument == 2);
            }
        });
        noOperation((x, arity, code) -> x.dependsOn(arity, code, 0));
        says("Throws `IndexOutOfBoundsException` if there is no such argument", () -> {
            for (int arity = 1; arity <= 3; arity++) {
                final int asked = arity;
                takesNone(outside(0, arity - 1), Given.SOME, INDEX, (x, n) -> x.dependsOn(asked, 0, n));
                takesNone(outside(0, arity - 1), Given.FULL, INDEX, (x, n) -> x.dependsOn(asked, codes(asked) - 1, n));
            }
        });
    }

    private void compose() {
        promise(28);
        says("Returns the composition of an operation with another one in all its arguments: for an operation f of "
            + "arity k and the operation g of arity 2, the operation that gives f(g(x, y), g(y, x), g(x, x)) for the "
            + "arguments x and y, where only the first k of the three arguments of f count.", () -> {
            eachOperation((arity, code) -> {
                for (int inner = 0; inner < 16; inner++) {
                    int composition = new BooleanConstraints().compose(arity, code, inner);
                    for (int i = 0; i < 4; i++) {
                        int x = i & 1;
                        int y = i >> 1;
                        equal(composition >> i & 1, value(arity, code, value(2, inner, x, y, 0),
                            value(2, inner, y, x, 0), value(2, inner, x, x, 0)));
                    }
                }
            });
            answers(Given.SOME, 8, x -> x.compose(3, 128, 8));
        });
        arityLine("- `arity`: the arity of f, 1 to 3", Given.NEW, (x, arity, code) -> x.compose(arity, code, 0));
        codeLine("- `code`: the code of f", Given.NEW, (x, arity, code) -> x.compose(arity, code, 15));
        says("- `inner`: the code of g, 0 to 15", () -> {
            for (int arity = 1; arity <= 3; arity++) {
                final int asked = arity;
                takes(0, 15, Given.NEW, ARGUMENT, (x, inner) -> x.compose(asked, 0, inner));
            }
        });
        says("Returns the code of the composition, which has arity 2.", () -> {
            eachOperation((arity, code) -> {
                for (int inner = 0; inner < 16; inner++) {
                    int composition = new BooleanConstraints().compose(arity, code, inner);
                    isTrue(composition >= 0 && composition <= 15);
                }
            });
            for (int arity = 1; arity <= 3; arity++) {
                equal(new BooleanConstraints().compose(arity, 0, 15), 0);
                equal(new BooleanConstraints().compose(arity, codes(arity) - 1, 0), 15);
            }
        });
        noOperation((x, arity, code) -> x.compose(arity, code, 0));
        says("Throws `IllegalArgumentException` if inner is out of range", () -> {
            for (int arity = 1; arity <= 3; arity++) {
                final int asked = arity;
                takesNone(outside(0, 15), Given.SOME, ARGUMENT, (x, inner) -> x.compose(asked, 1, inner));
                takesNone(outside(0, 15), Given.FULL, ARGUMENT, (x, inner) -> x.compose(asked, 1, inner));
            }
        });
    }
}
