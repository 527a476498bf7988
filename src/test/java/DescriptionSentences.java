import java.util.ArrayList;
import java.util.List;

/** The sentences of 'Description' and 'More precisely', and of the constants. */
final class DescriptionSentences extends Sentences {
    DescriptionSentences(Check check) {
        super(check);
    }

    @Override
    void run() {
        section("Description");
        relations();
        operations();
        preservation();
        kinds();
        instances();
        assignments();
        texts();
        errorPositions();
        flags();
        exceptions();
        section("More precisely");
        preciseLanguages();
        preciseInstances();
        preciseTexts();
        section("The constants");
        constants();
    }

    private void relations() {
        says("A relation has an arity from 1 to 4 and a set of tuples.", () -> {
            takes(1, 4, Given.NEW, ARGUMENT, BooleanConstraints::addRelation);
            BooleanConstraints x = Given.object(4, 3, 3, 3);
            equal(x.tupleCount(0), 1);
            x.removeTuple(0, 3);
            isFalse(x.contains(0, 3));
        });
        says("A tuple of arity r is an integer from 0 to 2^r - 1; its bit i is the value at position i, for i = 0 to "
            + "r - 1.", () -> {
            for (int arity = 1; arity <= 4; arity++) {
                final int asked = arity;
                takes(0, (1 << arity) - 1, () -> Given.object(asked), ARGUMENT, (x, tuple) -> x.addTuple(0, tuple));
                for (int i = 0; i < arity; i++) {
                    BooleanConstraints x = Given.object(arity, 1 << i);
                    x.write(0);
                    for (int position = 0; position < arity; position++) {
                        equal(x.outputAt(position), position == i ? '1' : '0');
                    }
                }
            }
        });
        says("There are at most 8 relations, numbered from 0 in the order in which they were added.", () -> {
            Whole.Start eight = () -> {
                BooleanConstraints x = Given.numbered(8, 3);
                x.append('1');
                return x;
            };
            for (Whole.Act add : waysToAdd()) {
                BooleanConstraints x = Given.numbered(7, 3);
                x.append('1');
                equal(Check.outcome(() -> add.on(x)), "7");
                for (int relation = 0; relation < 7; relation++) {
                    equal(Whole.tuples(x, relation), 1 << relation);
                }
                BooleanConstraints y = eight.make();
                fails(STATE, () -> add.on(y));
                changesOnly(eight, add, "input");
            }
        });
        says("Together they are the language.", () -> {
            for (int relation = 0; relation < 8; relation++) {
                BooleanConstraints x = new BooleanConstraints();
                for (int i = 0; i < 8; i++) {
                    Given.relation(x, 2, i == relation ? new int[] {1, 2} : new int[] {0, 3});
                }
                equal(x.lowestKind(), 4);
                isFalse(x.isPolymorphism(2, 8));
                equal(x.polymorphismCount(1), 2);
                fails(KIND, x::leastSolution);
            }
        });
    }

    /** All nine calls that add a relation; the last one reads the input. */
    private static List<Whole.Act> waysToAdd() {
        List<Whole.Act> ways = new ArrayList<>();
        ways.add(x -> x.addRelation(1));
        ways.add(x -> x.addClause(4, 15));
        ways.add(x -> x.addParity(3, 1));
        ways.add(x -> x.addComplement(0));
        ways.add(x -> x.addIntersection(0, 6));
        ways.add(x -> x.addProjection(6, 2));
        ways.add(x -> x.addExchanged(6, 0, 2));
        ways.add(x -> x.define(4, 0, 0, 0, 0));
        ways.add(BooleanConstraints::parse);
        return ways;
    }

    private void operations() {
        says("An operation has an arity k from 1 to 3, and its value for the arguments x, y and z (only the first k of "
            + "them count) is bit x + 2y + 4z of its code, where x, y and z are 0 or 1, and those that do not count "
            + "are taken as 0.", () -> {
            takes(1, 3, Given.NEW, ARGUMENT, (x, arity) -> x.apply(arity, 1, 0, 0, 0));
            for (int arity = 1; arity <= 3; arity++) {
                for (int bit = 0; bit < 1 << arity; bit++) {
                    for (int i = 0; i < 8; i++) {
                        int due = i % (1 << arity) == bit ? 1 : 0;
                        equal(new BooleanConstraints().apply(arity, 1 << bit, i & 1, i >> 1 & 1, i >> 2), due);
                    }
                }
            }
        });
        says("The code is an integer from 0 to 2^(2^k) - 1.", () -> {
            takes(0, 3, Given.NEW, ARGUMENT, (x, code) -> x.apply(1, code, 0, 0, 0));
            takes(0, 15, Given.NEW, ARGUMENT, (x, code) -> x.apply(2, code, 0, 0, 0));
            takes(0, 255, Given.NEW, ARGUMENT, (x, code) -> x.apply(3, code, 0, 0, 0));
        });
    }

    private void preservation() {
        says("An operation of arity k is applied to k tuples of the same arity position by position, and gives a tuple "
            + "of that arity.", () -> {
            // The opposite, the minimum and the majority of single tuples, told by hand.
            for (int arity = 1; arity <= 4; arity++) {
                int ones = (1 << arity) - 1;
                BooleanConstraints x = Given.object(arity, 1);
                equal(x.close(0, 1, 1), 2);
                isTrue(x.contains(0, ones - 1));
            }
            BooleanConstraints min = Given.object(4, 0b1100, 0b1010);
            equal(min.close(0, 2, 8), 3);
            isTrue(min.contains(0, 0b1000));
            BooleanConstraints majority = Given.object(4, 0b0011, 0b0101, 0b1001);
            equal(majority.close(0, 3, 232), 4);
            isTrue(majority.contains(0, 0b0001));
            BooleanConstraints sum = Given.object(4, 0b0011, 0b0101, 0b1001);
            equal(sum.close(0, 3, 150), 4);
            isTrue(sum.contains(0, 0b1111));
        });
        says("It preserves a relation if it gives a tuple of the relation for any k tuples of the relation, in any "
            + "order and with any repetitions.", () -> {
            // The sum of two gives 0 for a tuple and itself: a repetition.
            isFalse(Given.object(2, 1, 2, 3).preserves(2, 6, 0));
            isTrue(Given.object(2, 0, 1, 2, 3).preserves(2, 6, 0));
            // The second without the first: 10 and 11 give 01 in one order, and 00 in the other one.
            isFalse(Given.object(2, 0b00, 0b01, 0b11).preserves(2, 4, 0));
            isFalse(Given.object(2, 0b00, 0b01, 0b11).preserves(2, 2, 0));
            isTrue(Given.object(2, 0b00, 0b01, 0b10, 0b11).preserves(2, 4, 0));
            // Of three arguments, only the last two the same, and only all the same.
            isFalse(Given.object(2, 0b01, 0b11).preserves(3, 0x40, 0));
            isFalse(Given.object(1, 1).preserves(3, 0x7F, 0));
            isTrue(Given.object(1, 1).preserves(3, 0x80, 0));
        });
        says("It is a polymorphism if it preserves all relations of the language; if there are no relations, every "
            + "operation is a polymorphism.", () -> {
            for (int arity = 1; arity <= 3; arity++) {
                for (int code = 0; code < 1 << (1 << arity); code++) {
                    isTrue(new BooleanConstraints().isPolymorphism(arity, code));
                    BooleanConstraints x = Given.object(1, 0);
                    Given.relation(x, 1, 1);
                    equal(x.isPolymorphism(arity, code), x.preserves(arity, code, 0) && x.preserves(arity, code, 1));
                }
                equal(new BooleanConstraints().polymorphismCount(arity), 1 << (1 << arity));
            }
        });
        says("The closure of a relation under an operation is the smallest set of tuples that contains the relation "
            + "and is preserved by the operation.", () -> {
            // From two tuples the sum of three leads to nothing new, the sum of two to all sums, and so on.
            equal(closure(4, 0b10, 3, 150), 0b10);
            equal(closure(4, 1 << 3 | 1 << 5, 3, 150), 1 << 3 | 1 << 5);
            equal(closure(4, 1 << 3 | 1 << 5, 2, 6), 1 | 1 << 3 | 1 << 5 | 1 << 6);
            equal(closure(4, 1 << 1 | 1 << 2 | 1 << 4 | 1 << 8, 2, 6), 0xFFFF);
            equal(closure(4, 0, 2, 7), 0);
            equal(closure(4, 1 << 5, 1, 1), 1 << 5 | 1 << 10);
            equal(closure(4, 1 << 5, 2, 7), 1 | 1 << 5 | 1 << 10 | 1 << 15);
            equal(closure(4, 0xFFFF, 1, 0), 0xFFFF);
        });
    }

    private static int closure(int arity, int set, int operationArity, int code) {
        BooleanConstraints x = Given.objectOfSet(arity, set);
        x.close(0, operationArity, code);
        return Whole.tuples(x, 0);
    }

    private void kinds() {
        says("There are six kinds, numbered 0 to 5, and an operation belongs to each of them: 0 the constant 0 of "
            + "arity 1; 1 the constant 1 of arity 1; 2 the minimum of two arguments; 3 the maximum of two arguments; 4 "
            + "the majority of three arguments, which is the value that at least two of them have; 5 the sum of three "
            + "arguments modulo 2.", () -> {
            takes(0, 5, Given.NEW, ARGUMENT, BooleanConstraints::hasKind);
            int[] arities = {1, 1, 2, 2, 3, 3};
            int[] codes = {0, 3, 8, 14, 232, 150};
            for (int set = 0; set < 256; set++) {
                BooleanConstraints x = Given.objectOfSet(3, set);
                for (int kind = 0; kind < 6; kind++) {
                    equal(x.relationHasKind(0, kind), KindSentences.isOfKind(3, set, kind));
                    equal(x.relationHasKind(0, kind), x.preserves(arities[kind], codes[kind], 0));
                }
            }
        });
        says("A relation has a kind if the operation of the kind preserves it, and the language has a kind if all its "
            + "relations have it.", () -> {
            BooleanConstraints x = Given.object(2, 0, 1, 2);
            Given.relation(x, 2, 1, 2, 3);
            isTrue(x.relationHasKind(0, 2) && !x.relationHasKind(0, 3));
            isTrue(x.relationHasKind(1, 3) && !x.relationHasKind(1, 2));
            isFalse(x.hasKind(2));
            isFalse(x.hasKind(3));
            isTrue(x.hasKind(4));
        });
        says("A language is called easy if it has at least one kind.", () -> {
            int[][] easy = {{0}, {7}, {0, 1, 2, 4}, {3, 5, 6, 7}, {1, 6}, {1, 2, 4, 7}};
            int[] lowest = {0, 1, 0, 1, 4, 1};
            for (int i = 0; i < easy.length; i++) {
                equal(Given.object(3, easy[i]).lowestKind(), lowest[i]);
            }
            fails(NONE, () -> Given.object(3, 1, 2, 4).lowestKind());
            fails(NONE, () -> Given.object(3, 3, 5, 6).lowestKind());
        });
    }

    private void instances() {
        says("The instance has n variables (1 to 10), numbered from 0, and at most 20 constraints, numbered from 0 in "
            + "the order in which they were added.", () -> {
            takes(1, 10, Given.NEW, ARGUMENT, BooleanConstraints::setVariables);
            for (int count = 1; count <= 10; count++) {
                final int variables = count;
                takes(0, count - 1, () -> Given.withVariables(variables), INDEX, (x, n) -> x.isForced(n, 0));
            }
            BooleanConstraints x = Given.object(1, 1);
            for (int number = 0; number < 20; number++) {
                equal(x.addConstraint(0, 0, 0, 0, 0), number);
            }
            fails(STATE, () -> x.addConstraint(0, 0, 0, 0, 0));
            BooleanConstraints order = Given.object(1, 1);
            order.setVariables(10);
            for (int number = 0; number < 10; number++) {
                order.addConstraint(0, 9 - number, 0, 0, 0);
                order.addConstraint(0, 9 - number, 0, 0, 0);
            }
            for (int number = 0; number < 10; number++) {
                equal(order.firstViolated(1023 - (1 << 9 - number)), 2 * number);
            }
        });
        says("A constraint consists of a relation and of a variable for each position of the relation; the variables "
            + "may repeat.", () -> {
            for (int arity = 1; arity <= 4; arity++) {
                BooleanConstraints x = Given.withVariables(2);
                x.addParity(arity, 1);
                x.addConstraint(0, 1, 1, 1, 1);
                equal(x.solutionCount(), arity % 2 == 0 ? 0 : 2);
                equal(x.isForced(1, 1), true);
            }
            BooleanConstraints y = Given.withVariables(10);
            Given.relation(y, 4, 0b0101, 0b0011);
            y.addConstraint(0, 9, 0, 9, 0);
            equal(y.solutionCount(), 256);
            isTrue(y.isForced(9, 1) && y.isForced(0, 0));
        });
    }

    private void assignments() {
        says("An assignment is an integer from 0 to 2^n - 1; its bit v is the value of variable v.", () -> {
            for (int count = 1; count <= 10; count++) {
                final int variables = count;
                takes(0, (1 << count) - 1, () -> Given.withVariables(variables), ARGUMENT,
                    BooleanConstraints::firstViolated);
                for (int variable = 0; variable < count; variable++) {
                    BooleanConstraints x = Given.withVariables(count);
                    x.addParity(1, 0);
                    x.addConstraint(0, variable, 0, 0, 0);
                    equal(x.firstViolated(1 << variable), 0);
                    fails(NONE, () -> x.firstViolated(0));
                }
            }
        });
        says("A solution is an assignment that satisfies all constraints: for each constraint, the tuple of the values "
            + "of its variables is in its relation, as the relation is at the time of the question.", () -> {
            BooleanConstraints x = Given.withVariables(3);
            Given.relation(x, 2, 0b01);
            x.addConstraint(0, 0, 1, 0, 0);
            x.addConstraint(0, 2, 1, 0, 0);
            equal(x.solutionCount(), 1);
            equal(x.solution(0), 0b101);
            x.addTuple(0, 0b00);
            equal(x.solutionCount(), 4);
            x.removeTuple(0, 0b01);
            equal(x.solutionCount(), 1);
            equal(x.solution(0), 0);
            x.removeTuple(0, 0);
            equal(x.solutionCount(), 0);
        });
        says("Solutions are numbered from 0 in increasing order.", () -> {
            for (int count : new int[] {1, 5, 6, 7, 10}) {
                BooleanConstraints x = Given.withVariables(count);
                x.addClause(2, 0b01);
                x.addConstraint(0, count - 1, 0, 0, 0);
                int index = 0;
                for (int assignment = 0; assignment < 1 << count; assignment++) {
                    if ((assignment >> count - 1 & 1) <= (assignment & 1)) {
                        equal(x.solution(index), assignment);
                        index++;
                        // An object is used for 512 calls.
                        if (index % 400 == 0) {
                            x = Given.withVariables(count);
                            x.addClause(2, 0b01);
                            x.addConstraint(0, count - 1, 0, 0, 0);
                        }
                    }
                }
                equal(x.solutionCount(), index);
            }
        });
    }

    private void texts() {
        says("The input is a buffer of at most 60 characters.", () -> {
            BooleanConstraints x = new BooleanConstraints();
            for (int length = 1; length <= 60; length++) {
                equal(x.append('1'), length);
            }
            fails(STATE, () -> x.append('1'));
            refuses(Given.FULL, STATE, y -> y.append('0'));
        });
        says("A relation is written as one or more tuples, separated by single commas.", () -> {
            equal(parsed("1"), "1:2");
            equal(parsed("1,0"), "1:3");
            equal(parsed("01,10"), "2:6");
            equal(parsed(""), "0");
            equal(parsed(","), "0");
            equal(parsed("1,"), "2");
            equal(parsed(",1"), "0");
            equal(parsed("1,,0"), "2");
            equal(parsed("01,,10"), "3");
            equal(parsed("10,01,"), "6");
        });
        says("A tuple is written as 1 to 4 digits 0 or 1, the value at position 0 first; all tuples of a text have the "
            + "same number of digits, and a tuple may occur more than once.", () -> {
            equal(parsed("0"), "1:1");
            equal(parsed("1000"), "4:2");
            equal(parsed("0001"), "4:256");
            equal(parsed("11111"), "4");
            equal(parsed("1111,11111"), "9");
            equal(parsed("2"), "0");
            equal(parsed("10,1"), "4");
            equal(parsed("1,10"), "3");
            equal(parsed("110,110,110"), "3:8");
            equal(parsed("0,0,0,0,0,0,0,0,0,0,0,0,0,0,0,0,0,0,0,0,0,0,0,0,0,0,0,0,0,0"), "1:1");
        });
        says("Nothing else may occur.", () -> {
            for (int code = 32; code <= 126; code++) {
                if (code != '0' && code != '1' && code != ',') {
                    char wrong = (char) code;
                    equal(parsed("" + wrong), "0");
                    equal(parsed("0" + wrong), "1");
                    equal(parsed("01," + wrong), "3");
                    equal(parsed("01,1" + wrong + "0"), "4");
                    equal(parsed("01,10" + wrong), "5");
                }
            }
        });
        says("The length limit of the buffer is not part of this syntax.", () -> {
            // Sixty characters are never a text, but more digits behind them would make one.
            equal(parsed(Given.LONGEST_TEXT + ","), "60");
            equal(parsed("1,".repeat(30)), "60");
            equal(parsed("10,".repeat(20)), "60");
            equal(parsed("110,".repeat(15)), "60");
            equal(parsed("1001,".repeat(12)), "60");
            equal(parsed("1,".repeat(29) + "1"), "1:2");
            equal(parsed("1,".repeat(29) + "11"), "59");
            equal(parsed("1001,".repeat(11) + "10010"), "59");
            equal(parsed("1001,".repeat(11) + "100,0"), "58");
        });
    }

    /** The arity and the set of tuples of the relation that a text describes, or the error position alone. */
    private static String parsed(String text) {
        return parsed(TextSentences.typed(text));
    }

    /** The same of the input of an object without relations. */
    static String parsed(BooleanConstraints x) {
        String answer = Check.outcome(x::parse);
        if (answer.equals("throws IllegalArgumentException")) {
            return String.valueOf(x.errorPosition());
        }
        return answer.equals("0") ? x.arity(0) + ":" + Whole.tuples(x, 0) : answer;
    }

    private void errorPositions() {
        says("The error position of a text that is not valid is the smallest index k such that no valid text starts "
            + "with the first k + 1 characters of it; if there is no such index, it is the length of the text.", () -> {
            // At each place of a long text: another character, one too few, and the end.
            for (int arity = 1; arity <= 4; arity++) {
                String text = ("1011".substring(0, arity) + ",").repeat(60 / (arity + 1));
                // Two characters more are the most that a text gets here.
                for (int at = 0; at <= 58; at++) {
                    boolean whole = at % (arity + 1) == arity;
                    String before = text.substring(0, at);
                    equal(parsed(before + "x"), String.valueOf(at));
                    if (!whole && (at > arity || at == 0)) {
                        equal(parsed(before), String.valueOf(at));
                        equal(parsed(before + ","), String.valueOf(at));
                        equal(parsed(before + ",1"), String.valueOf(at));
                    }
                    if (whole && (at > arity || arity == 4)) {
                        equal(parsed(before + "0"), String.valueOf(at));
                        equal(parsed(before + "0x"), String.valueOf(at));
                    }
                }
            }
        });
    }

    private void flags() {
        says("There are 3 slots, numbered 0 to 2.", () -> {
            takes(0, 2, Given.FULL, INDEX, (x, slot) -> x.storeFlags(slot, 1, 0));
            takes(0, 2, Given.SOME, INDEX, (x, slot) -> x.takeFlags(slot, 0));
            // An array without elements has no element, too, so the slots are told by arrays with one.
            takes(0, 2, () -> {
                BooleanConstraints x = Given.object(1);
                x.storeFlags(0, 1, 0);
                x.storeFlags(1, 1, 0);
                x.storeFlags(2, 1, 0);
                return x;
            }, INDEX, (x, slot) -> x.setFlag(slot, 0, true));
        });
        says("A slot is empty or holds an array of booleans.", () -> {
            BooleanConstraints x = Given.object(4, 0, 15);
            equal(FlagSentences.elements(x, 1), "empty");
            x.storeFlags(1, 16, 0);
            equal(FlagSentences.elements(x, 1), "1000000000000001");
            x.storeFlags(1, 0, 0);
            equal(FlagSentences.elements(x, 1), "");
            fails(INDEX, () -> x.setFlag(1, 0, true));
            equal(x.takeFlags(1, 0), 0);
        });
        says("All slots are empty at first.", () -> {
            for (int slot = 0; slot < 3; slot++) {
                final int asked = slot;
                fails(STATE, () -> new BooleanConstraints().setFlag(asked, 0, true));
                fails(STATE, () -> Given.object(1).takeFlags(asked, 0));
            }
        });
    }

    private void exceptions() {
        says("A method that throws an exception leaves the state unchanged, unless its documentation says "
            + "otherwise.", () -> {
            for (Refusals.Refusal refusal : Refusals.all()) {
                if (!refusal.name.equals("parse")) {
                    refuses(refusal.start, refusal.due, refusal.act);
                }
            }
            // What the documentation of parse says otherwise: the input, and for a wrong text the error position.
            changesOnly(Given.FULL, BooleanConstraints::parse, "input", "error");
        });
        says("If several exceptions apply, the one that is documented first is thrown.", () -> {
            for (Refusals.Refusal refusal : Refusals.several()) {
                BooleanConstraints x = refusal.start.make();
                fails(refusal.due, () -> refusal.act.on(x));
            }
        });
        says("Methods whose documentation does not mention a change only answer a question.", () -> {
            for (Whole.Act question : Refusals.questions()) {
                changesOnly(Given.NEW, question);
                changesOnly(Given.SOME, question);
                changesOnly(Given.FULL, question);
            }
        });
        says("A new object has no relations, 1 variable, no constraints and an empty input.", () -> {
            BooleanConstraints x = new BooleanConstraints();
            equal(x.relationCount(), 0);
            equal(Whole.variables(x), 1);
            fails(STATE, x::removeLastConstraint);
            equal(x.append('0'), 1);
            fails(ARGUMENT, () -> new BooleanConstraints().parse());
        });
    }

    private void preciseLanguages() {
        says("Every operation preserves a relation without tuples, whose closure has none, either; a language without "
            + "relations has each kind.", () -> {
            for (int length = 1; length <= 4; length++) {
                for (int arity = 1; arity <= 3; arity++) {
                    for (int code = 0; code < 1 << (1 << arity); code++) {
                        BooleanConstraints x = Given.object(length);
                        isTrue(x.preserves(arity, code, 0));
                        isTrue(x.isPolymorphism(arity, code));
                        equal(x.close(0, arity, code), 0);
                        equal(x.tupleCount(0), 0);
                    }
                }
            }
            for (int kind = 0; kind < 6; kind++) {
                isTrue(new BooleanConstraints().hasKind(kind));
            }
            equal(new BooleanConstraints().leastSolution(), 0);
            equal(new BooleanConstraints().greatestSolution(), 1);
            isTrue(new BooleanConstraints().implies(0, 0, 0, 0));
            equal(new BooleanConstraints().dimension(), 1);
        });
        says("Tuples are out of range if they are negative or have more digits than the arity.", () -> {
            for (int arity = 1; arity <= 4; arity++) {
                Whole.Start start = withArity(arity);
                for (int wrong : new int[] {-1, Integer.MIN_VALUE, 1 << arity, (2 << arity) - 1, Integer.MAX_VALUE}) {
                    refuses(start, ARGUMENT, x -> x.addTuple(0, wrong));
                    refuses(start, ARGUMENT, x -> x.removeTuple(0, wrong));
                    refuses(start, ARGUMENT, x -> x.contains(0, wrong));
                }
                int last = (1 << arity) - 1;
                isTrue(start.make().addTuple(0, last));
                isFalse(start.make().removeTuple(0, last));
                isFalse(start.make().contains(0, last));
            }
        });
        says("Arguments of an operation that do not count must be 0 or 1, and are taken as 0.", () -> {
            takes(0, 1, Given.NEW, ARGUMENT, (x, y) -> x.apply(1, 3, 0, y, 0));
            takes(0, 1, Given.NEW, ARGUMENT, (x, z) -> x.apply(1, 3, 0, 0, z));
            takes(0, 1, Given.NEW, ARGUMENT, (x, z) -> x.apply(2, 3, 0, 0, z));
            for (int i = 0; i < 4; i++) {
                equal(new BooleanConstraints().apply(1, 1, 0, i & 1, i >> 1), 1);
                equal(new BooleanConstraints().apply(1, 2, 1, i & 1, i >> 1), 1);
                equal(new BooleanConstraints().apply(1, 2, 0, i & 1, i >> 1), 0);
                equal(new BooleanConstraints().apply(2, 1 << i, i & 1, i >> 1, 1), 1);
                equal(new BooleanConstraints().apply(2, 15 - (1 << i), i & 1, i >> 1, 1), 0);
            }
        });
        says("A relation is equal to itself.", () -> {
            for (int relation = 0; relation < 8; relation++) {
                isTrue(Given.full().areEqual(relation, relation));
                isTrue(Given.numbered(8, 3).areEqual(relation, relation));
            }
            isTrue(Given.object(4).areEqual(0, 0));
            fails(INDEX, () -> Given.object(4).areEqual(1, 1));
        });
    }

    private static Whole.Start withArity(int arity) {
        return () -> Given.object(arity);
    }

    private void preciseInstances() {
        says("Constraints go by the relation as it is when a question is asked.", () -> {
            Whole.Act[] changes = {x -> x.addTuple(0, 1), x -> x.removeTuple(0, 0), x -> x.close(0, 1, 1),
                x -> x.takeFlags(0, 0)};
            int[] counts = {2, 0, 2, 1};
            boolean[] redundant = {true, false, true, false};
            boolean[] hasOne = {true, false, true, true};
            for (int i = 0; i < changes.length; i++) {
                BooleanConstraints x = Given.object(1, 1);
                x.storeFlags(0, 2, 0);
                x.removeTuple(0, 1);
                x.addTuple(0, 0);
                x.addConstraint(0, 0, 0, 0, 0);
                equal(x.solutionCount(), 1);
                equal(x.firstViolated(1), 0);
                changes[i].on(x);
                equal(x.solutionCount(), counts[i]);
                equal(x.isRedundant(0), redundant[i]);
                equal(Check.outcome(() -> x.firstViolated(1)), hasOne[i] ? "throws NoSuchElementException" : "0");
            }
        });
        says("If there are no solutions, everything is forced, and a constraint is redundant if there are none without "
            + "it, either.", () -> {
            for (int count = 1; count <= 10; count++) {
                BooleanConstraints x = Given.withVariables(count);
                x.addRelation(2);
                x.addConstraint(0, 0, count - 1, 0, 0);
                for (int variable = 0; variable < count; variable++) {
                    isTrue(x.isForced(variable, 0));
                    isTrue(x.isForced(variable, 1));
                }
                isFalse(x.isRedundant(0));
                x.addConstraint(0, count - 1, 0, 0, 0);
                isTrue(x.isRedundant(0));
                isTrue(x.isRedundant(1));
                equal(x.removeRedundant(), 1);
                isFalse(x.isRedundant(0));
            }
        });
        says("A single solution has the dimension 0.", () -> {
            for (int count = 1; count <= 10; count++) {
                for (int value = 0; value <= 1; value++) {
                    BooleanConstraints x = Given.withVariables(count);
                    x.addParity(1, value);
                    for (int variable = 0; variable < count; variable++) {
                        x.addConstraint(0, variable, 0, 0, 0);
                    }
                    equal(x.solutionCount(), 1);
                    equal(x.dimension(), 0);
                }
            }
        });
        says("A relation that is defined without constraints holds for all assignments; a variable that is told twice "
            + "has equal values.", () -> {
            for (int arity = 1; arity <= 4; arity++) {
                for (int count = arity; count <= 10; count++) {
                    BooleanConstraints x = Given.withVariables(count);
                    x.define(arity, count - 1, count - 2, count - 3, count - 4);
                    equal(x.tupleCount(0), 1 << arity);
                    x.define(arity, 0, 0, 0, 0);
                    equal(Whole.tuples(x, 1), 1 | 1 << (1 << arity) - 1);
                }
            }
            BooleanConstraints x = Given.withVariables(2);
            x.define(4, 1, 0, 1, 0);
            equal(Whole.tuples(x, 0), 1 | 1 << 0b0101 | 1 << 0b1010 | 1 << 0b1111);
        });
        says("setVariables removes the constraints also with the same number.", () -> {
            for (int count = 1; count <= 10; count++) {
                BooleanConstraints x = Given.withVariables(count);
                x.addParity(1, 1);
                x.addConstraint(0, count - 1, 0, 0, 0);
                equal(x.setVariables(count), 1);
                equal(x.solutionCount(), 1 << count);
                fails(STATE, x::removeLastConstraint);
                equal(x.setVariables(count), 0);
            }
        });
    }

    private void preciseTexts() {
        says("A text that is wrong comes before the number of relations.", () -> {
            for (String text : new String[] {"", "0,", "2", "00000", "01,1", Given.LONGEST_TEXT + ","}) {
                BooleanConstraints x = Given.numbered(8, 1);
                Given.type(x, text);
                fails(ARGUMENT, x::parse);
                equal(String.valueOf(x.errorPosition()), parsed(text));
            }
            BooleanConstraints x = Given.numbered(8, 1);
            x.append('0');
            fails(STATE, x::parse);
        });
        says("A second tuple is wrong at its first digit too many, at the comma, or at the end of the text; an empty "
            + "input is not a text.", () -> {
            String[] firsts = {"1", "10", "110", "0111"};
            for (String first : firsts) {
                int length = first.length();
                equal(parsed(first + "," + first + "1"), String.valueOf(2 * length + 1));
                equal(parsed(first + "," + first + "10,"), String.valueOf(2 * length + 1));
                String few = first.substring(1);
                equal(parsed(first + "," + few), String.valueOf(2 * length));
                equal(parsed(first + "," + few + ","), String.valueOf(2 * length));
                equal(parsed(first + "," + few + "," + first), String.valueOf(2 * length));
            }
            equal(parsed(""), "0");
            fails(ARGUMENT, () -> new BooleanConstraints().parse());
        });
        says("The input is empty behind parse in every case.", () -> {
            for (String text : new String[] {"", "1", "0,", "x", Given.LONGEST_TEXT, Given.LONGEST_TEXT + "1"}) {
                for (int relations : new int[] {0, 7, 8}) {
                    BooleanConstraints x = Given.numbered(relations, 2);
                    Given.type(x, text);
                    Check.outcome(x::parse);
                    fails(ARGUMENT, x::parse);
                    equal(x.errorPosition(), 0);
                    equal(x.append('1'), 1);
                }
            }
        });
    }

    private void constants() {
        says("- `MAX_RELATIONS = 8`: The greatest number of relations.", () -> {
            equal(BooleanConstraints.MAX_RELATIONS, 8);
            BooleanConstraints x = Given.numbered(BooleanConstraints.MAX_RELATIONS, 1);
            fails(STATE, () -> x.addRelation(1));
        });
        says("- `MAX_VARIABLES = 10`: The greatest number of variables.", () -> {
            equal(BooleanConstraints.MAX_VARIABLES, 10);
            BooleanConstraints x = Given.withVariables(BooleanConstraints.MAX_VARIABLES);
            fails(ARGUMENT, () -> x.setVariables(BooleanConstraints.MAX_VARIABLES + 1));
        });
        says("- `MAX_CONSTRAINTS = 20`: The greatest number of constraints.", () -> {
            equal(BooleanConstraints.MAX_CONSTRAINTS, 20);
            BooleanConstraints x = Given.object(1, 1);
            for (int i = 0; i < BooleanConstraints.MAX_CONSTRAINTS; i++) {
                equal(x.addConstraint(0, 0, 0, 0, 0), i);
            }
            fails(STATE, () -> x.addConstraint(0, 0, 0, 0, 0));
        });
    }
}
