import java.util.List;

/** The sentence of 'What it is' about the use of an object: runs of 512 calls. */
final class UseSentences extends Sentences {
    private static final int CALLS = 512;

    /** A call of each method that is accepted by the object that SETUP makes. */
    private static final String[] EACH_METHOD = {
        "addRelation 3", "addClause 2 1", "addParity 4 1", "addTuple 0 2", "removeTuple 0 1", "contains 0 1",
        "tupleCount 1", "arity 1", "relationCount", "areEqual 0 1", "addComplement 1", "addIntersection 0 0",
        "addProjection 1 2", "addExchanged 1 0 2", "apply 3 232 1 0 1", "preserves 3 150 0", "isPolymorphism 2 8",
        "polymorphismCount 2", "polymorphism 2 1", "isIdempotent 2 6", "isMonotone 3 128", "projectedArgument 3 204",
        "close 0 1 1", "dual 3 1", "dependsOn 2 8 1", "compose 3 150 6", "relationHasKind 0 4", "hasKind 5",
        "lowestKind", "addConstraint 0 2 0 0 0", "solutionCount", "solution 1", "isForced 2 1", "leastSolution",
        "greatestSolution", "implies 0 0 1 1", "dimension", "define 3 2 1 0 0", "firstViolated 1", "isRedundant 0",
        "removeRedundant", "removeLastConstraint", "append 1", "parse", "errorPosition", "write 1", "outputAt 2",
        "storeFlags 1 16 1", "setFlag 1 9 true", "takeFlags 1 1", "saveSnapshot", "restoreSnapshot", "setVariables 3",
        "clear"
    };
    private static final String[] SETUP = {
        "setVariables 3", "addParity 2 1", "addParity 3 0", "addConstraint 0 0 1 0 0", "addConstraint 1 0 1 2 0",
        "parse", "append 0", "write 1", "storeFlags 1 8 1", "saveSnapshot"
    };

    UseSentences(Check check) {
        super(check);
    }

    @Override
    void run() {
        section("What it is");
        says("An object is used for at most 512 calls after it has been made; what later calls answer is free.", () -> {
            oneMethodAgainAndAgain();
            allMethodsInTurn();
            relationsComeAndGo();
            texts();
            refusedCalls();
            dearestCall();
        });
    }

    private static Pair made() {
        Pair pair = new Pair();
        for (String call : SETUP) {
            pair.isSameAsWritten(call);
        }
        return pair;
    }

    /** One method again and again, and then each method once, to the 512th call. */
    private void oneMethodAgainAndAgain() {
        for (String call : EACH_METHOD) {
            Pair pair = made();
            boolean same = true;
            while (same && pair.calls() < CALLS - EACH_METHOD.length) {
                same = pair.isSameAsWritten(call);
            }
            inTurn(pair, 0, same);
        }
    }

    /** Each method is the first in one of the runs, and so each is the 512th call of one. */
    private void allMethodsInTurn() {
        for (int first = 0; first < EACH_METHOD.length; first++) {
            inTurn(made(), first, true);
        }
    }

    private void inTurn(Pair pair, int first, boolean sameSoFar) {
        boolean same = sameSoFar;
        for (int i = first; same && pair.calls() < CALLS; i++) {
            same = pair.isSameAsWritten(EACH_METHOD[i % EACH_METHOD.length]);
        }
        isTrue(same);
        if (!same) {
            System.out.println(pair.story());
        }
    }

    private void relationsComeAndGo() {
        BooleanConstraints x = new BooleanConstraints();
        int calls = 0;
        while (calls + 9 < CALLS) {
            for (int relation = 0; relation < 8; relation++) {
                equal(x.addClause(4, relation), relation);
            }
            equal(x.clear(), 8);
            calls += 9;
        }
        for (; calls < CALLS - 1; calls++) {
            equal(x.relationCount(), 0);
        }
        equal(x.addParity(4, 1), 0);
    }

    /** Eight full inputs that are refused are 488 calls, and 24 are left for a text that is not. */
    private void texts() {
        BooleanConstraints x = new BooleanConstraints();
        for (int round = 0; round < 8; round++) {
            Given.type(x, Given.LONGEST_TEXT);
            equal(x.append(','), 60);
            fails(ARGUMENT, x::parse);
        }
        Given.type(x, "0101,1010,0110,1001");
        equal(x.errorPosition(), 60);
        equal(x.parse(), 0);
        equal(x.write(0), 19);
        equal(x.tupleCount(0), 4);
        equal(x.outputAt(18), '1');
    }

    /** Beside the calls that make an object and look at it there is room for some 140 that are refused. */
    private void refusedCalls() {
        List<Refusals.Refusal> all = Refusals.all();
        all.removeIf(refusal -> refusal.start != Given.FULL || refusal.name.equals("parse"));
        changesOnly(Given.FULL, x -> {
            for (int i = 0; i < 140; i++) {
                Refusals.Refusal refusal = all.get(i % all.size());
                fails(refusal.due, () -> refusal.act.on(x));
            }
            return null;
        });
        BooleanConstraints x = new BooleanConstraints();
        for (int calls = 0; calls < CALLS - 1; calls++) {
            fails(ARGUMENT, () -> x.addRelation(0));
        }
        equal(x.addRelation(4), 0);
    }

    /** All operations preserve these eight relations, so all triples of their eight tuples are looked at each time. */
    private void dearestCall() {
        BooleanConstraints x = Given.withVariables(3);
        for (int relation = 0; relation < 8; relation++) {
            equal(x.define(4, 0, 0, 1, 2), relation);
        }
        for (int calls = 9; calls < CALLS; calls++) {
            equal(x.polymorphismCount(3), 256);
        }
    }
}
