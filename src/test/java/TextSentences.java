/** The sentences of the promises 46 to 50: text. */
final class TextSentences extends Sentences {
    private static final String NO_RELATION = "Throws `IndexOutOfBoundsException` if there is no such relation";

    TextSentences(Check check) {
        super(check);
    }

    @Override
    void run() {
        append();
        parse();
        errorPosition();
        write();
        outputAt();
    }

    static BooleanConstraints typed(String text) {
        BooleanConstraints x = new BooleanConstraints();
        Given.type(x, text);
        return x;
    }

    private void append() {
        promise(46);
        says("Appends a character to the input.", () -> {
            BooleanConstraints x = new BooleanConstraints();
            Given.type(x, "100,011");
            x.parse();
            equal(x.arity(0), 3);
            equal(Whole.tuples(x, 0), 1 << 0b001 | 1 << 0b110);
            changesOnly(Given.SOME, y -> y.append(','), "input");
            BooleanConstraints some = Given.some();
            Given.type(some, ",000");
            some.parse();
            equal(Whole.tuples(some, 4), 1 << 0b110 | 1 << 0b011 | 1);
        });
        says("- `character`: the character, with a code from 32 to 126", () -> {
            for (int code : new int[] {0, 31, 127, 65535}) {
                refuses(Given.NEW, ARGUMENT, x -> x.append((char) code));
            }
            for (int code = 32; code <= 126; code++) {
                equal(new BooleanConstraints().append((char) code), 1);
                BooleanConstraints x = new BooleanConstraints();
                x.append((char) code);
                String due = code == '0' || code == '1' ? "0" : "throws IllegalArgumentException";
                equal(Check.outcome(x::parse), due);
            }
        });
        says("Returns the new length of the input.", () -> {
            BooleanConstraints x = new BooleanConstraints();
            for (int round = 0; round < 2; round++) {
                for (int length = 1; length <= 60; length++) {
                    equal(x.append((char) (31 + length)), length);
                }
                fails(ARGUMENT, x::parse);
            }
            x.append('1');
            x.parse();
            equal(x.append('1'), 1);
            equal(Given.some().append('~'), 8);
        });
        says("Throws `IllegalArgumentException` if the character code is out of range", () -> {
            char[] wrong = {0, 10, 31, 127, 128, 160, 255, 256, 256 + '0', 0x8000, 0xFF10, 0xFFFF};
            for (char character : wrong) {
                refuses(Given.NEW, ARGUMENT, x -> x.append(character));
                refuses(Given.SOME, ARGUMENT, x -> x.append(character));
                refuses(Given.FULL, ARGUMENT, x -> x.append(character));
            }
            BooleanConstraints x = new BooleanConstraints();
            for (int code = 127; code <= 65535; code++) {
                final char character = (char) code;
                // An object is used for 512 calls.
                BooleanConstraints fresh = code % 256 == 0 ? new BooleanConstraints() : x;
                fails(ARGUMENT, () -> fresh.append(character));
                x = fresh;
            }
        });
        says("Throws `IllegalStateException` if the input has 60 characters", () -> {
            BooleanConstraints x = typed(Given.LONGEST_TEXT);
            equal(x.append('0'), 60);
            fails(STATE, () -> x.append('0'));
            for (int code : new int[] {32, '0', '1', ',', 126}) {
                refuses(Given.FULL, STATE, y -> y.append((char) code));
            }
            fails(ARGUMENT, x::parse);
            equal(x.errorPosition(), 59);
            equal(x.append('0'), 1);
        });
    }

    private void reads(String text, int arity, int... tuples) {
        BooleanConstraints x = typed(text);
        equal(Check.outcome(x::parse), "0");
        int due = 0;
        for (int tuple : tuples) {
            due |= 1 << tuple;
        }
        equal(x.arity(0), arity);
        equal(Whole.tuples(x, 0), due);
    }

    private void parse() {
        promise(47);
        says("Adds the relation that the input describes.", () -> {
            reads("0", 1, 0);
            reads("1", 1, 1);
            reads("0000", 4, 0);
            reads("1000", 4, 1);
            reads("0001", 4, 8);
            reads("110,001,110", 3, 3, 4);
            reads("00,10,01,11", 2, 0, 1, 2, 3);
            reads(Given.LONGEST_TEXT, 4, 10, 5, 15);
            changesOnly(Given.SOME, BooleanConstraints::parse, "relations", "input");
            BooleanConstraints x = Given.some();
            x.parse();
            equal(Whole.tuples(x, 4), 1 << 0b110 | 1 << 0b011);
            equal(x.relationCount(), 5);
        });
        says("The input is empty afterwards, whatever happens.", () -> {
            String[] texts = {"", "0", "x", "0,", "01,1", Given.LONGEST_TEXT, Given.LONGEST_TEXT + ","};
            for (String text : texts) {
                BooleanConstraints x = typed(text);
                Check.outcome(x::parse);
                equal(x.append('0'), 1);
                BooleanConstraints y = Given.numbered(8, 1);
                Given.type(y, text);
                Check.outcome(y::parse);
                equal(y.append('0'), 1);
            }
            nothingIsLeftOf("1".repeat(60));
            nothingIsLeftOf(",".repeat(60));
            nothingIsLeftOf("1111,".repeat(11) + "1111");
        });
        says("Returns the number of the relation.", () -> {
            BooleanConstraints x = new BooleanConstraints();
            for (int number = 0; number < 8; number++) {
                Given.type(x, "01,10");
                equal(x.parse(), number);
                equal(x.relationCount(), number + 1);
            }
            x.clear();
            x.append('1');
            equal(x.parse(), 0);
        });
        says("Throws `IllegalArgumentException` if the input is not a valid text; the error position is then kept for "
            + "errorPosition", () -> {
            String[] wrong = {"", "2", "0,", "01,1", "00000", "0 1", "x" + "0".repeat(59)};
            int[] positions = {0, 0, 2, 4, 4, 1, 0};
            for (int i = 0; i < wrong.length; i++) {
                final String text = wrong[i];
                for (int relations : new int[] {0, 7, 8}) {
                    Whole.Start start = () -> {
                        BooleanConstraints x = Given.numbered(relations, 2);
                        Given.type(x, text);
                        return x;
                    };
                    BooleanConstraints x = start.make();
                    fails(ARGUMENT, x::parse);
                    equal(x.errorPosition(), positions[i]);
                    changesOnly(start, BooleanConstraints::parse, "error", "input");
                }
            }
            changesOnly(Given.FULL, BooleanConstraints::parse, "error", "input");
        });
        says("Throws `IllegalStateException` if there are already 8 relations", () -> {
            for (String text : new String[] {"0", "01,10", Given.LONGEST_TEXT}) {
                BooleanConstraints seven = Given.numbered(7, 1);
                Given.type(seven, text);
                equal(seven.parse(), 7);
                Whole.Start eight = () -> {
                    BooleanConstraints x = Given.numbered(8, 1);
                    Check.outcome(x::parse);
                    Given.type(x, text);
                    return x;
                };
                BooleanConstraints x = eight.make();
                fails(STATE, x::parse);
                changesOnly(eight, BooleanConstraints::parse, "input");
            }
        });
    }

    /** What stood behind the end of a shorter text before does not belong to it. */
    private void nothingIsLeftOf(String longer) {
        String[] texts = {"0", "00", "000", "0000", "00,00", "", "0,", "000,00"};
        String[] due = {"1:1", "2:1", "3:1", "4:1", "2:1", "0", "2", "6"};
        for (int i = 0; i < texts.length; i++) {
            BooleanConstraints x = typed(longer);
            Check.outcome(x::parse);
            x.clear();
            Given.type(x, texts[i]);
            equal(DescriptionSentences.parsed(x), due[i]);
        }
    }

    private void errorPosition() {
        promise(48);
        says("Returns the error position of the last call of parse that threw an IllegalArgumentException.", () -> {
            BooleanConstraints x = typed("01,1");
            fails(ARGUMENT, x::parse);
            equal(x.errorPosition(), 4);
            Given.type(x, "2");
            equal(x.errorPosition(), 4);
            fails(ARGUMENT, x::parse);
            equal(x.errorPosition(), 0);
            Given.type(x, "011,");
            fails(ARGUMENT, x::parse);
            equal(x.errorPosition(), 4);
            x.append('1');
            x.parse();
            equal(x.errorPosition(), 4);
            for (int i = 0; i < 7; i++) {
                x.addRelation(1);
            }
            x.append('1');
            fails(STATE, x::parse);
            equal(x.errorPosition(), 4);
            answers(Given.SOME, 4, BooleanConstraints::errorPosition);
        });
        says("Returns the error position.", () -> {
            for (int length = 0; length <= 60; length++) {
                // Each tuple has one digit, so behind a comma a digit is missing, and behind a digit one is too many.
                BooleanConstraints x = new BooleanConstraints();
                for (int i = 0; i < length; i++) {
                    x.append(i % 2 == 0 ? '1' : ',');
                }
                if (length % 2 == 0) {
                    fails(ARGUMENT, x::parse);
                    equal(x.errorPosition(), length);
                } else {
                    x.append('x');
                    fails(ARGUMENT, x::parse);
                    equal(x.errorPosition(), length);
                }
            }
        });
        says("Throws `IllegalStateException` if there was no such call", () -> {
            refuses(Given.NEW, STATE, BooleanConstraints::errorPosition);
            refuses(() -> typed("x"), STATE, BooleanConstraints::errorPosition);
            refuses(() -> {
                BooleanConstraints x = typed("0,1");
                x.parse();
                return x;
            }, STATE, BooleanConstraints::errorPosition);
            BooleanConstraints x = Given.numbered(8, 1);
            x.append('0');
            fails(STATE, x::parse);
            fails(STATE, x::errorPosition);
            fails(ARGUMENT, () -> x.append((char) 31));
            fails(STATE, x::errorPosition);
        });
    }

    private void writes(BooleanConstraints x, int relation, String due) {
        equal(x.write(relation), due.length());
        equal(Whole.output(x), due);
    }

    private void write() {
        promise(49);
        says("Writes a relation to the output in the syntax in which relations are read, with its tuples in increasing "
            + "order.", () -> {
            writes(Given.object(1, 1), 0, "1");
            writes(Given.object(1, 1, 0), 0, "0,1");
            writes(Given.object(2, 3, 2, 1, 0), 0, "00,10,01,11");
            writes(Given.object(3, 4, 3), 0, "110,001");
            writes(Given.object(4, 8, 1), 0, "1000,0001");
            for (int set = 1; set < 256; set++) {
                BooleanConstraints x = Given.objectOfSet(3, set);
                x.write(0);
                Given.type(x, Whole.output(x));
                x.parse();
                isTrue(x.areEqual(0, 1));
            }
            changesOnly(Given.SOME, x -> x.write(3), "output");
            changesOnly(Given.FULL, x -> x.write(0), "output");
        });
        says("The output is empty at first.", () -> {
            equal(Whole.output(new BooleanConstraints()), "");
            fails(INDEX, () -> new BooleanConstraints().outputAt(0));
            fails(INDEX, () -> Given.numbered(8, 4).outputAt(0));
        });
        says("A relation without tuples is written as an empty text.", () -> {
            for (int arity = 1; arity <= 4; arity++) {
                writes(Given.object(arity), 0, "");
                BooleanConstraints x = Given.full();
                x.clear();
                x.addRelation(arity);
                writes(x, 0, "");
            }
        });
        says("- `relation`: the number of the relation", () -> {
            BooleanConstraints x = Given.numbered(8, 3);
            String[] due = {"000", "100", "010", "110", "001", "101", "011", "111"};
            for (int relation = 7; relation >= 0; relation--) {
                writes(x, relation, due[relation]);
            }
        });
        says("Returns the length of the output.", () -> {
            for (int arity = 1; arity <= 4; arity++) {
                BooleanConstraints x = Given.object(arity);
                equal(x.write(0), 0);
                for (int tuple = 0; tuple < 1 << arity; tuple++) {
                    x.addTuple(0, tuple);
                    equal(x.write(0), (tuple + 1) * (arity + 1) - 1);
                }
            }
            equal(Given.full().write(7), 79);
        });
        says(NO_RELATION, () -> {
            for (int count : new int[] {0, 1, 8}) {
                takes(0, count - 1, () -> Given.numbered(count, 3), INDEX, BooleanConstraints::write);
            }
            takesNone(outside(0, 3), Given.SOME, INDEX, BooleanConstraints::write);
            takesNone(outside(0, 7), Given.FULL, INDEX, BooleanConstraints::write);
        });
    }

    private void outputAt() {
        promise(50);
        says("Returns a character of the output.", () -> {
            for (int index = 0; index < 5; index++) {
                final int asked = index;
                answers(Given.SOME, "10,01".charAt(index), x -> x.outputAt(asked));
            }
            BooleanConstraints x = Given.some();
            x.clear();
            equal(Whole.output(x), "10,01");
        });
        says("- `index`: the index, from 0", () -> {
            takes(0, -1, Given.NEW, INDEX, BooleanConstraints::outputAt);
            takes(0, 4, Given.SOME, INDEX, BooleanConstraints::outputAt);
            takes(0, 78, Given.FULL, INDEX, BooleanConstraints::outputAt);
        });
        says("Returns the character.", () -> {
            String due = "0000,1000,0100,1100,0010,1010,0110,1110,0001,1001,0101,1101,0011,1011,0111,1111";
            BooleanConstraints x = Given.full();
            for (int index = 0; index < 79; index++) {
                equal(x.outputAt(index), due.charAt(index));
            }
        });
        says("Throws `IndexOutOfBoundsException` if index is not an index of the output", () -> {
            takesNone(outside(0, -1), Given.NEW, INDEX, BooleanConstraints::outputAt);
            takesNone(outside(0, 4), Given.SOME, INDEX, BooleanConstraints::outputAt);
            takesNone(outside(0, 78), Given.FULL, INDEX, BooleanConstraints::outputAt);
            BooleanConstraints x = Given.full();
            x.write(0);
            equal(x.outputAt(0), '0');
            fails(INDEX, () -> x.outputAt(1));
            x.removeTuple(0, 0);
            x.write(0);
            fails(INDEX, () -> x.outputAt(0));
        });
    }
}
