import java.util.ArrayList;
import java.util.List;

/** Calls that are refused, at least one for each 'Throws' line of the document, and calls that only ask. */
final class Refusals {
    static final class Refusal {
        final String name;
        final Class<? extends RuntimeException> due;
        final Whole.Start start;
        final Whole.Act act;

        Refusal(String name, Class<? extends RuntimeException> due, Whole.Start start, Whole.Act act) {
            this.name = name;
            this.due = due;
            this.start = start;
            this.act = act;
        }
    }

    private static final Class<IllegalArgumentException> ARGUMENT = Sentences.ARGUMENT;
    private static final Class<IllegalStateException> STATE = Sentences.STATE;
    private static final Class<IndexOutOfBoundsException> INDEX = Sentences.INDEX;
    private static final Class<UnsupportedOperationException> KIND = Sentences.KIND;
    private static final Class<java.util.NoSuchElementException> NONE = Sentences.NONE;

    /** All kinds and no solutions: a relation without tuples, and a constraint on it. */
    private static final Whole.Start UNSOLVABLE = () -> {
        BooleanConstraints x = Given.withVariables(3);
        x.addRelation(2);
        x.addConstraint(0, 0, 1, 0, 0);
        return x;
    };
    /** No kind and no solutions. */
    private static final Whole.Start HARD = () -> {
        BooleanConstraints x = UNSOLVABLE.make();
        Given.relation(x, 3, 1, 2, 4);
        return x;
    };

    private final List<Refusal> list = new ArrayList<>();
    private Whole.Start start;

    private Refusals() {
    }

    private void add(String name, Class<? extends RuntimeException> due, Whole.Act act) {
        list.add(new Refusal(name, due, start, act));
    }

    /** For each method and each of its exceptions one call that only this one applies to. */
    static List<Refusal> all() {
        Refusals refusals = new Refusals();
        refusals.start = Given.SOME;
        refusals.relations();
        refusals.operations();
        refusals.instances();
        refusals.textsAndFlags();
        refusals.start = Given.FULL;
        refusals.relations();
        refusals.operations();
        refusals.instances();
        refusals.textsAndFlags();
        refusals.whatIsFull();
        refusals.start = Given.NEW;
        refusals.operations();
        refusals.whatIsNotThere();
        refusals.start = UNSOLVABLE;
        refusals.whatHasNoSolutions();
        return refusals.list;
    }

    private void relations() {
        add("addRelation", ARGUMENT, x -> x.addRelation(5));
        add("addClause", ARGUMENT, x -> x.addClause(0, 0));
        add("addClause", ARGUMENT, x -> x.addClause(1, 2));
        add("addParity", ARGUMENT, x -> x.addParity(5, 1));
        add("addParity", ARGUMENT, x -> x.addParity(4, 2));
        add("addTuple", INDEX, x -> x.addTuple(8, 0));
        add("addTuple", ARGUMENT, x -> x.addTuple(0, 2));
        add("removeTuple", INDEX, x -> x.removeTuple(-1, 0));
        add("removeTuple", ARGUMENT, x -> x.removeTuple(3, 16));
        add("contains", INDEX, x -> x.contains(8, 0));
        add("contains", ARGUMENT, x -> x.contains(0, -1));
        add("tupleCount", INDEX, x -> x.tupleCount(8));
        add("arity", INDEX, x -> x.arity(-1));
        add("areEqual", INDEX, x -> x.areEqual(8, 0));
        add("areEqual", INDEX, x -> x.areEqual(0, 8));
        add("addComplement", INDEX, x -> x.addComplement(8));
        add("addIntersection", INDEX, x -> x.addIntersection(0, -1));
        add("addIntersection", ARGUMENT, x -> x.addIntersection(0, 1));
        add("addProjection", INDEX, x -> x.addProjection(8, 0));
        add("addProjection", INDEX, x -> x.addProjection(1, 2));
        add("addProjection", ARGUMENT, x -> x.addProjection(0, 0));
        add("addExchanged", INDEX, x -> x.addExchanged(8, 0, 0));
        add("addExchanged", INDEX, x -> x.addExchanged(1, 0, 2));
    }

    private void operations() {
        add("apply", ARGUMENT, x -> x.apply(4, 0, 0, 0, 0));
        add("apply", ARGUMENT, x -> x.apply(1, 0, 0, 0, 2));
        add("preserves", ARGUMENT, x -> x.preserves(1, 4, 0));
        add("preserves", INDEX, x -> x.preserves(1, 3, 8));
        add("isPolymorphism", ARGUMENT, x -> x.isPolymorphism(2, 16));
        add("polymorphismCount", ARGUMENT, x -> x.polymorphismCount(0));
        add("polymorphism", ARGUMENT, x -> x.polymorphism(4, 0));
        add("polymorphism", NONE, x -> x.polymorphism(3, 256));
        add("isIdempotent", ARGUMENT, x -> x.isIdempotent(3, 256));
        add("isMonotone", ARGUMENT, x -> x.isMonotone(3, -1));
        add("projectedArgument", ARGUMENT, x -> x.projectedArgument(0, 0));
        add("projectedArgument", NONE, x -> x.projectedArgument(1, 0));
        add("close", INDEX, x -> x.close(8, 1, 0));
        add("dual", ARGUMENT, x -> x.dual(1, 4));
        add("dependsOn", ARGUMENT, x -> x.dependsOn(2, 16, 0));
        add("dependsOn", INDEX, x -> x.dependsOn(2, 15, 2));
        add("compose", ARGUMENT, x -> x.compose(3, 256, 0));
        add("compose", ARGUMENT, x -> x.compose(3, 255, 16));
        add("relationHasKind", INDEX, x -> x.relationHasKind(8, 0));
        add("hasKind", ARGUMENT, x -> x.hasKind(6));
    }

    /** For objects with relations of the arities 1 to 4 that have no kind together. */
    private void instances() {
        add("close", ARGUMENT, x -> x.close(0, 1, 4));
        add("relationHasKind", ARGUMENT, x -> x.relationHasKind(0, 6));
        add("lowestKind", NONE, BooleanConstraints::lowestKind);
        add("setVariables", ARGUMENT, x -> x.setVariables(11));
        add("addConstraint", INDEX, x -> x.addConstraint(8, 0, 0, 0, 0));
        add("addConstraint", INDEX, x -> x.addConstraint(3, 0, 0, 0, 10));
        add("solution", NONE, x -> x.solution(3));
        add("isForced", INDEX, x -> x.isForced(10, 0));
        add("isForced", ARGUMENT, x -> x.isForced(0, 2));
        add("leastSolution", KIND, BooleanConstraints::leastSolution);
        add("greatestSolution", KIND, BooleanConstraints::greatestSolution);
        add("implies", KIND, x -> x.implies(0, 0, 0, 0));
        add("dimension", KIND, BooleanConstraints::dimension);
        add("define", ARGUMENT, x -> x.define(5, 0, 0, 0, 0));
        add("define", INDEX, x -> x.define(2, 0, 10, 0, 0));
        add("firstViolated", ARGUMENT, x -> x.firstViolated(1024));
        add("firstViolated", NONE, x -> x.firstViolated(x.solution(0)));
        add("isRedundant", INDEX, x -> x.isRedundant(20));
    }

    private void textsAndFlags() {
        add("append", ARGUMENT, x -> x.append((char) 127));
        add("write", INDEX, x -> x.write(8));
        add("outputAt", INDEX, x -> x.outputAt(79));
        add("storeFlags", INDEX, x -> x.storeFlags(3, 1, 0));
        add("storeFlags", INDEX, x -> x.storeFlags(0, 1, 8));
        add("storeFlags", ARGUMENT, x -> x.storeFlags(0, 17, 0));
        add("setFlag", INDEX, x -> x.setFlag(3, 0, true));
        add("setFlag", INDEX, x -> x.setFlag(0, 16, true));
        add("takeFlags", INDEX, x -> x.takeFlags(3, 0));
        add("takeFlags", INDEX, x -> x.takeFlags(0, 8));
    }

    private void whatIsFull() {
        add("addRelation", STATE, x -> x.addRelation(1));
        add("addClause", STATE, x -> x.addClause(1, 0));
        add("addParity", STATE, x -> x.addParity(1, 0));
        add("addComplement", STATE, x -> x.addComplement(0));
        add("addIntersection", STATE, x -> x.addIntersection(0, 4));
        add("addProjection", STATE, x -> x.addProjection(3, 3));
        add("addExchanged", STATE, x -> x.addExchanged(3, 0, 3));
        add("addConstraint", STATE, x -> x.addConstraint(0, 0, 0, 0, 0));
        add("define", STATE, x -> x.define(1, 0, 0, 0, 0));
        add("append", STATE, x -> x.append('0'));
        add("parse", ARGUMENT, BooleanConstraints::parse);
    }

    private void whatIsNotThere() {
        add("removeLastConstraint", STATE, BooleanConstraints::removeLastConstraint);
        add("solution", NONE, x -> x.solution(2));
        add("isRedundant", INDEX, x -> x.isRedundant(0));
        add("errorPosition", STATE, BooleanConstraints::errorPosition);
        add("outputAt", INDEX, x -> x.outputAt(0));
        add("setFlag", STATE, x -> x.setFlag(0, 0, true));
        add("restoreSnapshot", STATE, BooleanConstraints::restoreSnapshot);
        add("implies", INDEX, x -> x.implies(0, 0, 1, 0));
        add("implies", ARGUMENT, x -> x.implies(0, 0, 0, 2));
    }

    private void whatHasNoSolutions() {
        add("solution", NONE, x -> x.solution(0));
        add("leastSolution", NONE, BooleanConstraints::leastSolution);
        add("greatestSolution", NONE, BooleanConstraints::greatestSolution);
        add("dimension", NONE, BooleanConstraints::dimension);
        add("takeFlags", STATE, x -> x.takeFlags(0, 0));
    }

    /** Calls that several exceptions apply to, with the one that is documented first. */
    static List<Refusal> several() {
        Refusals refusals = new Refusals();
        refusals.start = Given.FULL;
        refusals.severalAboutRelations();
        refusals.start = Given.SOME;
        refusals.severalAboutOperations();
        refusals.start = HARD;
        refusals.severalAboutSolutions();
        refusals.severalAboutTheRest();
        return refusals.list;
    }

    private void severalAboutRelations() {
        add("addRelation", ARGUMENT, x -> x.addRelation(0));
        add("addRelation", ARGUMENT, x -> x.addRelation(5));
        add("addClause", ARGUMENT, x -> x.addClause(5, 0));
        add("addClause", ARGUMENT, x -> x.addClause(4, 16));
        add("addParity", ARGUMENT, x -> x.addParity(0, 0));
        add("addParity", ARGUMENT, x -> x.addParity(1, -1));
        add("addTuple", INDEX, x -> x.addTuple(8, -1));
        add("addTuple", INDEX, x -> x.addTuple(-1, 16));
        add("removeTuple", INDEX, x -> x.removeTuple(8, -1));
        add("removeTuple", INDEX, x -> x.removeTuple(-1, 16));
        add("contains", INDEX, x -> x.contains(8, -1));
        add("contains", INDEX, x -> x.contains(-1, 16));
        add("addComplement", INDEX, x -> x.addComplement(8));
        add("addIntersection", INDEX, x -> x.addIntersection(8, 0));
        add("addIntersection", INDEX, x -> x.addIntersection(0, 8));
        add("addIntersection", ARGUMENT, x -> x.addIntersection(0, 1));
        add("addProjection", INDEX, x -> x.addProjection(8, 0));
        add("addProjection", INDEX, x -> x.addProjection(0, 1));
        add("addProjection", INDEX, x -> x.addProjection(0, -1));
        add("addProjection", INDEX, x -> x.addProjection(3, 4));
        add("addProjection", ARGUMENT, x -> x.addProjection(0, 0));
        add("addExchanged", INDEX, x -> x.addExchanged(8, 0, 0));
        add("addExchanged", INDEX, x -> x.addExchanged(0, 1, 0));
        add("addExchanged", INDEX, x -> x.addExchanged(3, 0, 4));
        add("define", ARGUMENT, x -> x.define(0, 0, 0, 0, 0));
        add("define", ARGUMENT, x -> x.define(5, 10, 10, 10, 10));
        add("define", INDEX, x -> x.define(1, 10, 0, 0, 0));
        add("define", INDEX, x -> x.define(4, 0, 0, 0, -1));
        add("addConstraint", INDEX, x -> x.addConstraint(8, 0, 0, 0, 0));
        add("addConstraint", INDEX, x -> x.addConstraint(0, 10, 0, 0, 0));
        add("addConstraint", INDEX, x -> x.addConstraint(3, 0, 0, 0, -1));
        add("append", ARGUMENT, x -> x.append((char) 31));
        add("append", ARGUMENT, x -> x.append((char) 127));
        add("parse", ARGUMENT, BooleanConstraints::parse);
    }

    private void severalAboutOperations() {
        add("preserves", ARGUMENT, x -> x.preserves(0, 0, 4));
        add("preserves", ARGUMENT, x -> x.preserves(1, 4, -1));
        add("polymorphism", ARGUMENT, x -> x.polymorphism(0, -1));
        add("polymorphism", ARGUMENT, x -> x.polymorphism(4, 256));
        add("projectedArgument", ARGUMENT, x -> x.projectedArgument(4, 0));
        add("projectedArgument", ARGUMENT, x -> x.projectedArgument(1, 4));
        add("close", INDEX, x -> x.close(4, 0, 0));
        add("close", INDEX, x -> x.close(-1, 3, 256));
        add("dependsOn", ARGUMENT, x -> x.dependsOn(0, 0, 0));
        add("dependsOn", ARGUMENT, x -> x.dependsOn(4, 0, 4));
        add("dependsOn", ARGUMENT, x -> x.dependsOn(1, 4, -1));
        add("relationHasKind", INDEX, x -> x.relationHasKind(4, 6));
        add("relationHasKind", INDEX, x -> x.relationHasKind(-1, -1));
        add("isForced", INDEX, x -> x.isForced(5, 2));
        add("isForced", INDEX, x -> x.isForced(-1, -1));
    }

    private void severalAboutSolutions() {
        add("leastSolution", KIND, BooleanConstraints::leastSolution);
        add("greatestSolution", KIND, BooleanConstraints::greatestSolution);
        add("dimension", KIND, BooleanConstraints::dimension);
        add("implies", KIND, x -> x.implies(3, 0, 0, 0));
        add("implies", KIND, x -> x.implies(0, 0, -1, 0));
        add("implies", KIND, x -> x.implies(0, 2, 0, 0));
        add("implies", KIND, x -> x.implies(3, 2, 3, 2));
    }

    private void severalAboutTheRest() {
        start = UNSOLVABLE;
        add("implies", INDEX, x -> x.implies(3, 2, 0, 0));
        add("implies", INDEX, x -> x.implies(0, 2, 3, 0));
        add("implies", INDEX, x -> x.implies(3, 0, 0, 2));
        add("implies", INDEX, x -> x.implies(0, 0, -1, -1));
        add("takeFlags", INDEX, x -> x.takeFlags(0, 1));
        add("takeFlags", INDEX, x -> x.takeFlags(3, 0));
        add("setFlag", INDEX, x -> x.setFlag(3, 0, true));
        add("setFlag", INDEX, x -> x.setFlag(-1, -1, true));
        add("setFlag", STATE, x -> x.setFlag(0, 16, true));
        add("setFlag", STATE, x -> x.setFlag(2, -1, true));
        add("storeFlags", INDEX, x -> x.storeFlags(3, 17, 0));
        add("storeFlags", INDEX, x -> x.storeFlags(0, 17, 1));
        add("storeFlags", INDEX, x -> x.storeFlags(0, -1, -1));
    }

    /** All methods that only answer a question, each with arguments of which some are refused in some objects. */
    static List<Whole.Act> questions() {
        List<Whole.Act> questions = new ArrayList<>();
        questions.add(x -> x.contains(0, 1));
        questions.add(x -> x.tupleCount(3));
        questions.add(x -> x.arity(3));
        questions.add(BooleanConstraints::relationCount);
        questions.add(x -> x.areEqual(0, 3));
        questions.add(x -> x.apply(3, 232, 1, 1, 0));
        questions.add(x -> x.preserves(3, 232, 3));
        questions.add(x -> x.isPolymorphism(2, 14));
        questions.add(x -> x.polymorphismCount(3));
        questions.add(x -> x.polymorphism(3, 1));
        questions.add(x -> x.isIdempotent(2, 8));
        questions.add(x -> x.isMonotone(2, 8));
        questions.add(x -> x.projectedArgument(2, 12));
        questions.add(x -> x.dual(3, 1));
        questions.add(x -> x.dependsOn(3, 1, 2));
        questions.add(x -> x.compose(3, 150, 6));
        questions.add(x -> x.relationHasKind(1, 4));
        questions.add(x -> x.hasKind(4));
        questions.add(BooleanConstraints::lowestKind);
        questions.add(BooleanConstraints::solutionCount);
        questions.add(x -> x.solution(0));
        questions.add(x -> x.isForced(0, 1));
        questions.add(BooleanConstraints::leastSolution);
        questions.add(BooleanConstraints::greatestSolution);
        questions.add(x -> x.implies(0, 0, 0, 1));
        questions.add(BooleanConstraints::dimension);
        questions.add(x -> x.firstViolated(0));
        questions.add(x -> x.isRedundant(0));
        questions.add(BooleanConstraints::errorPosition);
        questions.add(x -> x.outputAt(0));
        return questions;
    }
}
