/** The sentences of the promises 54 and 55: the snapshot. */
final class SnapshotSentences extends Sentences {
    SnapshotSentences(Check check) {
        super(check);
    }

    @Override
    void run() {
        saveSnapshot();
        restoreSnapshot();
    }

    private static final String[] SAVED = {"relations", "instance variables", "instance constraints",
        "instance assignments from 0", "instance assignments from 256", "instance assignments from 512",
        "instance assignments from 768"};

    /** Behind a change of everything and restoreSnapshot, what a snapshot saves is as in another object. */
    private void restores(Whole.Start saved, Whole.Act change) {
        java.util.Map<String, String> due = Whole.of(saved);
        java.util.Map<String, String> got = Whole.behind(saved, x -> {
            x.saveSnapshot();
            change.on(x);
            return x.restoreSnapshot();
        });
        for (String part : SAVED) {
            equal(got.get(part), due.get(part));
        }
    }

    private static Object changeAll(BooleanConstraints x) {
        x.clear();
        x.setVariables(2);
        x.addParity(1, 0);
        x.addParity(3, 0);
        x.addConstraint(0, 1, 0, 0, 0);
        return x.addConstraint(1, 1, 0, 0, 0);
    }

    private static Object changeALittle(BooleanConstraints x) {
        x.removeTuple(0, 0);
        x.removeTuple(0, 1);
        x.removeLastConstraint();
        return x.addConstraint(1, 0, 0, 0, 0);
    }

    /** Eight other relations, another number of variables, and twenty other constraints. */
    private static Object changeTheMost(BooleanConstraints x) {
        x.clear();
        x.setVariables(4);
        for (int relation = 0; relation < 8; relation++) {
            x.addParity(4 - relation % 4, relation % 2);
        }
        for (int i = 0; i < 20; i++) {
            x.addConstraint((i + 3) % 8, 3 - i % 4, 0, i % 3, 1);
        }
        return null;
    }

    private void saveSnapshot() {
        promise(54);
        says("Saves the relations, the number of variables and the constraints.", () -> {
            for (Whole.Start start : new Whole.Start[] {Given.NEW, Given.SOME, Given.FULL}) {
                restores(start, SnapshotSentences::changeAll);
                restores(start, SnapshotSentences::changeTheMost);
                changesOnly(start, BooleanConstraints::saveSnapshot, "snapshot");
            }
            restores(Given.SOME, SnapshotSentences::changeALittle);
            restores(Given.FULL, SnapshotSentences::changeALittle);
        });
        says("An earlier snapshot is replaced.", () -> {
            BooleanConstraints x = Given.full();
            changeAll(x);
            equal(x.saveSnapshot(), 2);
            x.clear();
            x.setVariables(7);
            equal(x.restoreSnapshot(), 2);
            equal(Whole.variables(x), 2);
            equal(x.addConstraint(0, 0, 0, 0, 0), 2);
            BooleanConstraints empty = Given.full();
            empty.clear();
            empty.setVariables(1);
            equal(empty.saveSnapshot(), 0);
            empty.addRelation(4);
            equal(empty.restoreSnapshot(), 0);
            equal(Whole.variables(empty), 1);
            fails(STATE, empty::removeLastConstraint);
        });
        says("Returns the number of relations.", () -> {
            for (int count = 0; count <= 8; count++) {
                equal(Given.numbered(count, 2).saveSnapshot(), count);
            }
            equal(Given.full().saveSnapshot(), 8);
        });
    }

    /** The snapshot of a full object comes back behind changes of all its parts. */
    private void mostIsRestored() {
        java.util.Map<String, String> due = Whole.of(Given.FULL);
        java.util.Map<String, String> got = Whole.behind(Given.FULL, x -> {
            changeTheMost(x);
            return x.restoreSnapshot();
        });
        equal(got, due);
    }

    private void restoreSnapshot() {
        promise(55);
        says("Restores the relations, the number of variables and the constraints from the snapshot.", () -> {
            for (Whole.Start start : new Whole.Start[] {Given.SOME, Given.FULL}) {
                changesOnly(start, BooleanConstraints::restoreSnapshot, "relations", "instance");
            }
            mostIsRestored();
            java.util.Map<String, String> some = Whole.behind(Given.SOME, BooleanConstraints::restoreSnapshot);
            equal(some.get("relations"), " 1:2 2:6 3:223");
            equal(some.get("instance variables"), "3");
            BooleanConstraints x = Given.some();
            x.restoreSnapshot();
            equal(x.solutionCount(), 4);
            equal(x.removeLastConstraint(), 1);
            equal(x.removeLastConstraint(), 0);
        });
        says("The snapshot is kept.", () -> {
            BooleanConstraints x = Given.full();
            for (int round = 0; round < 3; round++) {
                changeAll(x);
                equal(x.restoreSnapshot(), 8);
                equal(x.solutionCount(), 1);
                equal(x.tupleCount(7), 16);
                fails(STATE, () -> x.addConstraint(0, 0, 0, 0, 0));
                changeALittle(x);
                equal(x.restoreSnapshot(), 8);
                equal(x.solutionCount(), 1);
                isTrue(x.contains(0, 0));
            }
            changesOnly(Given.SOME, BooleanConstraints::restoreSnapshot, "relations", "instance");
        });
        says("Returns the number of relations.", () -> {
            for (int count = 0; count <= 8; count++) {
                BooleanConstraints x = Given.numbered(count, 2);
                x.saveSnapshot();
                equal(x.restoreSnapshot(), count);
                x.clear();
                x.addRelation(1);
                equal(x.restoreSnapshot(), count);
                equal(x.relationCount(), count);
            }
        });
        says("Throws `IllegalStateException` if no snapshot was saved", () -> {
            refuses(Given.NEW, STATE, BooleanConstraints::restoreSnapshot);
            refuses(() -> Given.numbered(8, 4), STATE, BooleanConstraints::restoreSnapshot);
            BooleanConstraints x = new BooleanConstraints();
            fails(STATE, x::restoreSnapshot);
            x.saveSnapshot();
            equal(x.restoreSnapshot(), 0);
        });
    }
}
