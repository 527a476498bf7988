/** The sentences of the promises 51 to 53: flags. */
final class FlagSentences extends Sentences {
    private static final String SLOT_LINE = "- `slot`: the slot, 0 to 2";
    private static final String RELATION_LINE = "- `relation`: the number of the relation";
    private static final String NO_SLOT_OR_RELATION =
        "Throws `IndexOutOfBoundsException` if the slot or the relation does not exist";
    private static final String EMPTY = "Throws `IllegalStateException` if the slot is empty";

    FlagSentences(Check check) {
        super(check);
    }

    @Override
    void run() {
        storeFlags();
        storeFlagsRefused();
        setFlag();
        takeFlags();
        takeFlagsRefused();
    }

    /** The elements of a slot as digits; an element can be read only by changing it, so it is changed back. */
    static String elements(BooleanConstraints x, int slot) {
        StringBuilder text = new StringBuilder();
        for (int i = 0; i <= 16; i++) {
            final int index = i;
            String before = Check.outcome(() -> x.setFlag(slot, index, false));
            if (before.startsWith("throws")) {
                return i == 0 && before.endsWith("IllegalStateException") ? "empty" : text.toString();
            }
            x.setFlag(slot, index, before.equals("true"));
            text.append(before.equals("true") ? 1 : 0);
        }
        return text.append(" and more").toString();
    }

    private static String digits(int set, int length) {
        StringBuilder text = new StringBuilder();
        for (int i = 0; i < length; i++) {
            text.append(set >> i & 1);
        }
        return text.toString();
    }

    private static BooleanConstraints withSlots(int count, int length) {
        BooleanConstraints x = new BooleanConstraints();
        x.addParity(4, 1);
        for (int slot = 0; slot < count; slot++) {
            x.storeFlags(slot, length, 0);
        }
        return x;
    }

    private void storeFlags() {
        promise(51);
        says("Puts an array into a slot in which each element tells whether a relation contains the tuple with the "
            + "index of the element.", () -> {
            for (int slot = 0; slot < 3; slot++) {
                for (int set : new int[] {0, 1, 0x8000, 0x7FFF, 0xFFFF, 0x5A3C}) {
                    BooleanConstraints x = Given.objectOfSet(4, set);
                    x.storeFlags(slot, 16, 0);
                    equal(elements(x, slot), digits(set, 16));
                    equal(elements(x, (slot + 1) % 3), "empty");
                    x.addTuple(0, 1);
                    x.removeTuple(0, 15);
                    equal(elements(x, slot), digits(set, 16));
                }
                final int asked = slot;
                changesOnly(Given.SOME, y -> y.storeFlags(asked, 4, 1), "flags");
                changesOnly(Given.FULL, y -> y.storeFlags(asked, 16, 0), "flags");
            }
        });
        says("The array has a given length; elements beyond the tuples of the arity of the relation are false.", () -> {
            for (int arity = 1; arity <= 4; arity++) {
                for (int length = 0; length <= 16; length++) {
                    BooleanConstraints x = Given.objectOfSet(arity, (1 << (1 << arity)) - 1);
                    x.storeFlags(0, length, 0);
                    equal(elements(x, 0), digits((1 << (1 << arity)) - 1, length));
                }
            }
            // What a longer array left in the slot does not come back.
            BooleanConstraints x = Given.full();
            x.storeFlags(0, 3, 7);
            equal(elements(x, 0), "111");
            x.storeFlags(0, 16, 0);
            equal(elements(x, 0), "1000000000000000");
        });
        says(SLOT_LINE, () -> {
            takes(0, 2, Given.SOME, INDEX, (x, slot) -> x.storeFlags(slot, 16, 0));
            for (int slot = 0; slot < 3; slot++) {
                BooleanConstraints x = withSlots(0, 0);
                x.storeFlags(slot, 2, 0);
                for (int other = 0; other < 3; other++) {
                    equal(elements(x, other), other == slot ? "01" : "empty");
                }
            }
        });
        says("- `length`: the length, at most 16", () -> {
            takes(0, 16, Given.SOME, ARGUMENT, (x, length) -> x.storeFlags(0, length, 0));
            takes(0, 16, Given.FULL, ARGUMENT, (x, length) -> x.storeFlags(2, length, 7));
            for (int length = 0; length <= 16; length++) {
                equal(elements(withSlots(3, length), 2).length(), length);
            }
        });
        says(RELATION_LINE, () -> {
            BooleanConstraints x = Given.numbered(8, 3);
            for (int relation = 0; relation < 8; relation++) {
                x.storeFlags(1, 8, relation);
                equal(elements(x, 1), digits(1 << relation, 8));
            }
        });
        says("Returns the number of elements that are true.", () -> {
            for (int length = 0; length <= 16; length++) {
                equal(Given.full().storeFlags(0, length, 7), length);
                equal(Given.full().storeFlags(0, length, 0), Math.min(length, 1));
                equal(Given.full().storeFlags(0, length, 3), Math.max(0, length - 1));
                equal(Given.object(4).storeFlags(0, length, 0), 0);
            }
        });
    }

    private void storeFlagsRefused() {
        says(NO_SLOT_OR_RELATION, () -> {
            for (Whole.Start start : new Whole.Start[] {Given.SOME, Given.FULL}) {
                takesNone(outside(0, 2), start, INDEX, (x, slot) -> x.storeFlags(slot, 4, 0));
                takesNone(outside(0, 2), start, INDEX, (x, slot) -> x.storeFlags(slot, 17, -1));
                int most = start == Given.SOME ? 3 : 7;
                takesNone(outside(0, most), start, INDEX, (x, n) -> x.storeFlags(0, 4, n));
                takesNone(outside(0, most), start, INDEX, (x, n) -> x.storeFlags(0, -1, n));
            }
            refuses(Given.NEW, INDEX, x -> x.storeFlags(0, 0, 0));
        });
        says("Throws `IllegalArgumentException` if length is negative or greater than 16", () -> {
            for (int slot = 0; slot < 3; slot++) {
                final int asked = slot;
                takesNone(outside(0, 16), Given.SOME, ARGUMENT, (x, length) -> x.storeFlags(asked, length, 3));
                takesNone(outside(0, 16), Given.FULL, ARGUMENT, (x, length) -> x.storeFlags(asked, length, 0));
            }
        });
    }

    private void setFlag() {
        promise(52);
        says("Changes an element of an array.", () -> {
            for (int length = 1; length <= 16; length++) {
                for (int index = 0; index < length; index++) {
                    BooleanConstraints x = withSlots(3, length);
                    String before = elements(x, 0);
                    x.setFlag(1, index, true);
                    StringBuilder due = new StringBuilder(before);
                    due.setCharAt(index, '1');
                    equal(elements(x, 1), due.toString());
                    x.setFlag(1, index, false);
                    due.setCharAt(index, '0');
                    equal(elements(x, 1), due.toString());
                    equal(elements(x, 0), before);
                    equal(elements(x, 2), before);
                }
            }
            changesOnly(Given.SOME, x -> x.setFlag(0, 15, false), "flags");
            changesOnly(Given.SOME, x -> x.setFlag(0, 15, true));
            changesOnly(Given.FULL, x -> x.setFlag(1, 0, true), "flags");
        });
        says(SLOT_LINE, () -> {
            takes(0, 2, () -> withSlots(3, 16), INDEX, (x, slot) -> x.setFlag(slot, 0, true));
            for (int slot = 0; slot < 3; slot++) {
                BooleanConstraints x = withSlots(3, 3);
                x.setFlag(slot, 0, true);
                for (int other = 0; other < 3; other++) {
                    equal(elements(x, other), other == slot ? "111" : "011");
                }
            }
        });
        says("- `index`: the index", () -> {
            for (int length = 0; length <= 16; length++) {
                final int asked = length;
                takes(0, length - 1, () -> withSlots(2, asked), INDEX, (x, index) -> x.setFlag(1, index, true));
            }
        });
        says("- `value`: the new value", () -> {
            BooleanConstraints x = withSlots(1, 16);
            x.setFlag(0, 15, true);
            isTrue(x.setFlag(0, 15, false));
            isFalse(x.setFlag(0, 15, false));
            isFalse(x.setFlag(0, 15, true));
            isTrue(x.setFlag(0, 15, true));
        });
        says("Returns the previous value.", () -> {
            BooleanConstraints x = withSlots(1, 16);
            for (int index = 0; index < 16; index++) {
                equal(x.setFlag(0, index, index % 3 == 0), Integer.bitCount(index) % 2 == 1);
                equal(x.setFlag(0, index, true), index % 3 == 0);
            }
        });
        says("Throws `IndexOutOfBoundsException` if the slot does not exist", () -> {
            takesNone(outside(0, 2), Given.NEW, INDEX, (x, slot) -> x.setFlag(slot, 0, true));
            takesNone(outside(0, 2), Given.SOME, INDEX, (x, slot) -> x.setFlag(slot, 16, true));
            takesNone(outside(0, 2), Given.FULL, INDEX, (x, slot) -> x.setFlag(slot, 0, false));
        });
        says(EMPTY, () -> {
            for (int slot = 0; slot < 3; slot++) {
                final int asked = slot;
                refuses(Given.NEW, STATE, x -> x.setFlag(asked, 0, true));
                takesNone(outside(0, 15), Given.NEW, STATE, (x, index) -> x.setFlag(asked, index, true));
            }
            refuses(Given.SOME, STATE, x -> x.setFlag(2, 0, false));
            refuses(Given.SOME, STATE, x -> x.setFlag(2, -1, false));
            // An array without elements is an array.
            fails(INDEX, () -> withSlots(1, 0).setFlag(0, 0, true));
        });
        says("Throws `IndexOutOfBoundsException` if there is no such element", () -> {
            takesNone(outside(0, 15), Given.SOME, INDEX, (x, index) -> x.setFlag(0, index, true));
            takesNone(outside(0, 2), Given.SOME, INDEX, (x, index) -> x.setFlag(1, index, true));
            takesNone(outside(0, -1), Given.FULL, INDEX, (x, index) -> x.setFlag(2, index, true));
            BooleanConstraints x = withSlots(1, 16);
            x.storeFlags(0, 5, 0);
            isTrue(x.setFlag(0, 4, true));
            fails(INDEX, () -> x.setFlag(0, 5, true));
        });
    }

    private void takeFlags() {
        promise(53);
        says("Replaces the tuples of a relation as the elements of an array tell.", () -> {
            for (int set : new int[] {0, 1, 0x8000, 0x7FFF, 0xFFFF, 0x5A3C}) {
                for (int slot = 0; slot < 3; slot++) {
                    BooleanConstraints x = Given.objectOfSet(4, set);
                    x.addParity(4, 0);
                    x.storeFlags(slot, 16, 0);
                    x.takeFlags(slot, 1);
                    equal(Whole.tuples(x, 1), set);
                    equal(x.arity(1), 4);
                    equal(Whole.tuples(x, 0), set);
                    equal(elements(x, slot), digits(set, 16));
                }
            }
            changesOnly(Given.SOME, x -> x.takeFlags(0, 2), "relations", "instance");
            changesOnly(Given.SOME, x -> x.takeFlags(0, 3));
        });
        says("Elements beyond the tuples of the arity of the relation are ignored, and tuples beyond the length of the "
            + "array are not in the relation afterwards.", () -> {
            for (int arity = 1; arity <= 4; arity++) {
                for (int length = 0; length <= 16; length++) {
                    BooleanConstraints x = Given.full();
                    x.storeFlags(1, length, 7);
                    int due = (1 << Math.min(length, 1 << arity)) - 1;
                    equal(x.takeFlags(1, arity - 1), Integer.bitCount(due));
                    equal(Whole.tuples(x, arity - 1), due);
                    equal(x.tupleCount(arity - 1), Integer.bitCount(due));
                }
            }
            // The complement and the comparison would show what was not ignored.
            BooleanConstraints x = Given.full();
            x.takeFlags(0, 0);
            equal(Whole.output(x).length(), 79);
            equal(x.write(0), 3);
            equal(x.storeFlags(1, 16, 0), 2);
        });
        says(SLOT_LINE, () -> {
            takes(0, 2, Given.FULL, INDEX, (x, slot) -> x.takeFlags(slot, 7));
            for (int slot = 0; slot < 3; slot++) {
                BooleanConstraints x = withSlots(3, 16);
                x.setFlag(slot, 0, true);
                equal(x.takeFlags(slot, 0), 9);
                equal(x.takeFlags((slot + 1) % 3, 0), 8);
            }
        });
        says(RELATION_LINE, () -> {
            for (int relation = 0; relation < 8; relation++) {
                BooleanConstraints x = Given.numbered(8, 3);
                x.storeFlags(0, 0, 0);
                x.takeFlags(0, relation);
                for (int other = 0; other < 8; other++) {
                    equal(Whole.tuples(x, other), other == relation ? 0 : 1 << other);
                }
            }
        });
        says("Returns the number of tuples of the relation afterwards.", () -> {
            for (int arity = 1; arity <= 4; arity++) {
                BooleanConstraints x = Given.full();
                equal(x.takeFlags(0, arity + 3), 1 << arity);
                equal(x.tupleCount(arity + 3), 1 << arity);
                equal(x.takeFlags(1, arity + 3), (1 << arity) - 1);
                equal(x.takeFlags(2, arity + 3), 0);
                equal(x.tupleCount(arity + 3), 0);
            }
        });
    }

    private void takeFlagsRefused() {
        says(NO_SLOT_OR_RELATION, () -> {
            takesNone(outside(0, 2), Given.SOME, INDEX, (x, slot) -> x.takeFlags(slot, 0));
            takesNone(outside(0, 2), Given.FULL, INDEX, (x, slot) -> x.takeFlags(slot, 8));
            takesNone(outside(0, 3), Given.SOME, INDEX, (x, n) -> x.takeFlags(0, n));
            takesNone(outside(0, 3), Given.SOME, INDEX, (x, n) -> x.takeFlags(2, n));
            takesNone(outside(0, 7), Given.FULL, INDEX, (x, n) -> x.takeFlags(1, n));
            takesNone(outside(0, -1), Given.NEW, INDEX, (x, n) -> x.takeFlags(0, n));
        });
        says(EMPTY, () -> {
            for (int slot = 0; slot < 3; slot++) {
                final int asked = slot;
                refuses(() -> withSlots(asked, 16), STATE, x -> x.takeFlags(asked, 0));
            }
            for (int relation = 0; relation < 4; relation++) {
                final int asked = relation;
                refuses(Given.SOME, STATE, x -> x.takeFlags(2, asked));
            }
            equal(withSlots(1, 0).takeFlags(0, 0), 0);
        });
    }
}
