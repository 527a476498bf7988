/** Promises 46 to 50: text. */
public final class TextTest {
    private static final Check CHECK = new Check("TextTest");
    private static final Class<IllegalArgumentException> ARGUMENT = IllegalArgumentException.class;
    private static final Class<IllegalStateException> STATE = IllegalStateException.class;
    private static final Class<IndexOutOfBoundsException> INDEX = IndexOutOfBoundsException.class;

    public static void main(String[] args) {
        append();
        parse();
        parseShortTexts();
        parseKeeps();
        errorPosition();
        write();
        outputAt();
        CHECK.end();
    }

    private static BooleanConstraints full() {
        BooleanConstraints x = new BooleanConstraints();
        for (int i = 0; i < 8; i++) {
            x.addRelation(1);
        }
        return x;
    }

    private static void append() {
        for (int code = 0; code < 65536; code++) {
            BooleanConstraints x = new BooleanConstraints();
            final char character = (char) code;
            boolean isOne = code >= 32 && code <= 126;
            if (isOne) {
                CHECK.equal("46: code " + code, x.append(character), 1);
            } else {
                CHECK.fails("46: code " + code, ARGUMENT, () -> x.append(character));
            }
            CHECK.equal("46: behind code " + code, x.append('0'), isOne ? 2 : 1);
        }
        BooleanConstraints longer = new BooleanConstraints();
        for (int length = 1; length <= 60; length++) {
            CHECK.equal("46: length", longer.append('1'), length);
        }
        Whole.Start full = () -> {
            BooleanConstraints x = new BooleanConstraints();
            Given.type(x, "01,".repeat(20));
            return x;
        };
        for (char character = 32; character <= 126; character++) {
            final char asked = character;
            CHECK.fails("46: the input is full", STATE, () -> full.make().append(asked));
        }
        CHECK.refuses(full, "46: a character more", STATE, x -> x.append('1'));
        CHECK.refuses(full, "46: the code before the length", ARGUMENT, x -> x.append((char) 31));
        CHECK.refuses(full, "46: the code before the length", ARGUMENT, x -> x.append((char) 127));
        BooleanConstraints x = full.make();
        CHECK.fails("46: the comma is the last character", ARGUMENT, x::parse);
        CHECK.equal("46: the comma is the last character", x.errorPosition(), 60);
        CHECK.equal("46: the input is empty again", x.append('1'), 1);
    }

    private static void reads(String text, int arity, int... tuples) {
        BooleanConstraints x = new BooleanConstraints();
        Given.type(x, text);
        CHECK.equal("47: " + text, x.parse(), 0);
        CHECK.equal("47: arity of " + text, x.arity(0), arity);
        int due = 0;
        for (int tuple : tuples) {
            due |= 1 << tuple;
        }
        CHECK.equal("47: tuples of " + text, Whole.tuples(x, 0), due);
        CHECK.equal("47: the input is empty", x.append('0'), 1);
        CHECK.fails("47: no error", STATE, x::errorPosition);
    }

    private static void refuses(String text, int position) {
        BooleanConstraints x = new BooleanConstraints();
        Given.type(x, text);
        CHECK.refusesText(x, text, position);
    }

    private static void parse() {
        reads("0", 1, 0);
        reads("1", 1, 1);
        reads("0,1", 1, 0, 1);
        reads("10", 2, 1);
        reads("01,01,10", 2, 2, 1);
        reads("100,001", 3, 1, 4);
        reads("1101", 4, 11);
        reads("0000,1111,0001,0000", 4, 0, 15, 8);
        reads("1,1,1,1,1,1,1,1,1,1,1,1,1,1,1,1,1,1,1,1,1,1,1,1,1,1,1,1,1,1", 1, 1);
        reads("0101,1010,0101,1010,0101,1010,0101,1010,0101,1010,0101,1111", 4, 10, 5, 15);
        refuses("", 0);
        refuses(",", 0);
        refuses(" ", 0);
        refuses("2", 0);
        refuses("0 ", 1);
        refuses("0,", 2);
        refuses("0,,", 2);
        refuses("0,1,", 4);
        refuses("01,0", 4);
        refuses("01,0,", 4);
        refuses("01,0,11", 4);
        refuses("01,011", 5);
        refuses("01,01,0", 7);
        refuses("0,10", 3);
        refuses("00000", 4);
        refuses("0000,00000", 9);
        refuses("0000,000", 8);
        refuses("01;10", 2);
        refuses("01,1 ", 4);
        refuses("01, 10", 3);
    }

    /** All texts of at most six characters of four kinds, told by the words of the document. */
    private static void parseShortTexts() {
        java.util.Set<String> prefixes = new java.util.HashSet<>();
        java.util.Set<String> valid = new java.util.HashSet<>();
        for (int arity = 1; arity <= 4; arity++) {
            gather("", arity, prefixes, valid);
        }
        char[] characters = {'0', '1', ',', ' '};
        for (int length = 0; length <= 6; length++) {
            for (int number = 0; number < 1 << 2 * length; number++) {
                StringBuilder text = new StringBuilder();
                for (int i = 0; i < length; i++) {
                    text.append(characters[number >> 2 * i & 3]);
                }
                oneText(text.toString(), prefixes, valid);
            }
        }
    }

    private static void gather(String text, int arity, java.util.Set<String> prefixes, java.util.Set<String> valid) {
        for (int tuple = 0; tuple < 1 << arity; tuple++) {
            StringBuilder longer = new StringBuilder(text);
            for (int i = 0; i < arity; i++) {
                longer.append(tuple >> i & 1);
            }
            valid.add(longer.toString());
            for (int i = text.length(); i <= longer.length(); i++) {
                prefixes.add(longer.substring(0, i));
            }
            if (longer.length() < 6) {
                gather(longer.append(',').toString(), arity, prefixes, valid);
            }
        }
    }

    private static void oneText(String text, java.util.Set<String> prefixes, java.util.Set<String> valid) {
        BooleanConstraints x = new BooleanConstraints();
        Given.type(x, text);
        if (valid.contains(text)) {
            CHECK.equal("47: " + text, x.parse(), 0);
            return;
        }
        int position = 0;
        while (position < text.length() && prefixes.contains(text.substring(0, position + 1))) {
            position++;
        }
        CHECK.refusesText(x, text, position);
    }

    private static Whole.Start fullWith(String text) {
        return () -> {
            BooleanConstraints x = full();
            Given.type(x, text);
            return x;
        };
    }

    private static void parseKeeps() {
        Whole.Act parse = BooleanConstraints::parse;
        CHECK.changesOnly(fullWith("01"), "47: a ninth", parse, "input");
        for (String wrong : new String[] {"2", "", "0,"}) {
            CHECK.changesOnly(fullWith(wrong), "47: wrong, and no room", parse, "input", "error");
        }
        BooleanConstraints x = fullWith("01").make();
        CHECK.fails("47: a ninth", STATE, x::parse);
        CHECK.fails("47: no error position", STATE, x::errorPosition);
        CHECK.equal("47: the input is empty behind it", x.append('2'), 1);
        CHECK.fails("47: the text before the number of relations", ARGUMENT, x::parse);
        CHECK.equal("47: the error position", x.errorPosition(), 0);
        CHECK.equal("47: the input is empty behind it", x.append('0'), 1);
        CHECK.fails("47: a ninth again", STATE, x::parse);
        CHECK.fails("47: an empty input before the number", ARGUMENT, x::parse);
        CHECK.equal("47: relations", x.relationCount(), 8);
        BooleanConstraints y = new BooleanConstraints();
        y.addClause(2, 0);
        Given.type(y, "011");
        CHECK.equal("47: number", y.parse(), 1);
        Given.type(y, "1111");
        y.parse();
        Given.type(y, "1");
        y.parse();
        CHECK.equal("47: what stood there before is gone", Whole.tuples(y, 3), 2);
    }

    private static void errorPosition() {
        CHECK.refuses(Given.NEW, "48: no call", STATE, BooleanConstraints::errorPosition);
        BooleanConstraints x = new BooleanConstraints();
        x.append('1');
        x.parse();
        CHECK.fails("48: no wrong text", STATE, x::errorPosition);
        Given.type(x, "10,1,");
        CHECK.fails("48: wrong", ARGUMENT, x::parse);
        CHECK.equal("48: position", x.errorPosition(), 4);
        x.append('0');
        x.parse();
        CHECK.equal("48: a right text keeps it", x.errorPosition(), 4);
        x.clear();
        x.saveSnapshot();
        x.restoreSnapshot();
        CHECK.equal("48: other calls keep it", x.errorPosition(), 4);
        for (int i = 0; i < 8; i++) {
            x.addRelation(1);
        }
        x.append('0');
        CHECK.fails("48: another exception", STATE, x::parse);
        CHECK.equal("48: another exception keeps it", x.errorPosition(), 4);
        CHECK.fails("48: empty", ARGUMENT, x::parse);
        CHECK.equal("48: the last call", x.errorPosition(), 0);
    }

    private static void writes(BooleanConstraints x, int relation, String due) {
        CHECK.equal("49: length of " + due, x.write(relation), due.length());
        CHECK.equal("49: output", Whole.output(x), due);
    }

    private static void write() {
        CHECK.refuses(Given.NEW, "49: relation", INDEX, y -> y.write(0));
        BooleanConstraints x = new BooleanConstraints();
        x.addRelation(3);
        writes(x, 0, "");
        x.addTuple(0, 6);
        x.addTuple(0, 1);
        writes(x, 0, "100,011");
        x.addParity(1, 1);
        writes(x, 1, "1");
        x.addTuple(1, 0);
        writes(x, 1, "0,1");
        x.addRelation(4);
        x.addComplement(2);
        writes(x, 3, "0000,1000,0100,1100,0010,1010,0110,1110,0001,1001,0101,1101,0011,1011,0111,1111");
        writes(x, 0, "100,011");
        CHECK.refuses(Given.SOME, "49: relation", INDEX, y -> y.write(4));
        CHECK.refuses(Given.SOME, "49: relation", INDEX, y -> y.write(-1));
        x.removeTuple(0, 1);
        CHECK.equal("49: the output is from the time of the call", Whole.output(x), "100,011");
        writes(x, 2, "");
        for (int set = 1; set < 16; set++) {
            readsWhatItWrites(set);
        }
    }

    private static void readsWhatItWrites(int set) {
        BooleanConstraints x = Given.objectOfSet(2, set);
        x.write(0);
        Given.type(x, Whole.output(x));
        x.parse();
        CHECK.isTrue("49: read again", x.areEqual(0, 1));
    }

    private static BooleanConstraints written() {
        BooleanConstraints x = new BooleanConstraints();
        x.addParity(2, 1);
        x.write(0);
        return x;
    }

    private static void outputAt() {
        CHECK.refuses(Given.NEW, "50: empty at first", INDEX, y -> y.outputAt(0));
        for (int wrong : new int[] {5, -1, 79, Integer.MIN_VALUE, Integer.MAX_VALUE}) {
            CHECK.refuses(TextTest::written, "50: index", INDEX, y -> y.outputAt(wrong));
        }
        BooleanConstraints x = written();
        CHECK.equal("50: first", x.outputAt(0), '1');
        CHECK.equal("50: second", x.outputAt(1), '0');
        CHECK.equal("50: comma", x.outputAt(2), ',');
        CHECK.equal("50: last", x.outputAt(4), '1');
        x.clear();
        CHECK.equal("50: clear keeps the output", x.outputAt(4), '1');
        x.addRelation(2);
        x.write(0);
        CHECK.fails("50: an empty text", INDEX, () -> x.outputAt(0));
    }
}
