/** Promises 54 and 55: the snapshot. */
public final class SnapshotTest {
    private static final Check CHECK = new Check("SnapshotTest");
    private static final Class<IllegalStateException> STATE = IllegalStateException.class;

    private static final Whole.Start EXAMPLE = SnapshotTest::example;
    private static final Whole.Start SAVED = () -> {
        BooleanConstraints x = example();
        x.saveSnapshot();
        return x;
    };

    public static void main(String[] args) {
        save();
        restore();
        whatStays();
        CHECK.end();
    }

    private static BooleanConstraints example() {
        BooleanConstraints x = new BooleanConstraints();
        x.addClause(3, 5);
        x.addParity(2, 1);
        x.setVariables(7);
        x.addConstraint(0, 6, 1, 2, 0);
        x.addConstraint(1, 6, 0, 0, 0);
        return x;
    }

    private static Object changeAll(BooleanConstraints x) {
        x.addTuple(0, 5);
        x.removeTuple(1, 1);
        x.removeLastConstraint();
        x.addConstraint(1, 3, 4, 0, 0);
        x.addConstraint(0, 3, 4, 5, 0);
        return x.addRelation(4);
    }

    private static void save() {
        BooleanConstraints x = new BooleanConstraints();
        CHECK.equal("54: no relations", x.saveSnapshot(), 0);
        x.addRelation(2);
        CHECK.equal("54: relations", x.saveSnapshot(), 1);
        x.clear();
        CHECK.equal("54: the later one counts", x.restoreSnapshot(), 1);
        CHECK.equal("54: two relations", example().saveSnapshot(), 2);
        CHECK.changesOnly(EXAMPLE, "54: nothing else changes", BooleanConstraints::saveSnapshot, "snapshot");
    }

    private static void restore() {
        CHECK.refuses(EXAMPLE, "55: none", STATE, BooleanConstraints::restoreSnapshot);
        CHECK.isFalse("55: changed", Whole.behind(EXAMPLE, SnapshotTest::changeAll).equals(Whole.of(EXAMPLE)));
        CHECK.changesOnly(SAVED, "55: as before", x -> {
            changeAll(x);
            return x.restoreSnapshot();
        });
        CHECK.changesOnly(SAVED, "55: the snapshot is kept", x -> {
            changeAll(x);
            x.restoreSnapshot();
            x.clear();
            x.setVariables(2);
            return x.restoreSnapshot();
        });
        CHECK.changesOnly(SAVED, "55: the changes behind it are not in it", x -> {
            x.restoreSnapshot();
            changeAll(x);
            return x.restoreSnapshot();
        });
        BooleanConstraints x = SAVED.make();
        changeAll(x);
        CHECK.equal("55: relations", x.restoreSnapshot(), 2);
        CHECK.equal("55: relations again", x.restoreSnapshot(), 2);
        CHECK.equal("55: the constraints go on", x.addConstraint(0, 0, 1, 2, 0), 2);
        CHECK.equal("55: the relations go on", x.addRelation(1), 2);
        BooleanConstraints y = new BooleanConstraints();
        y.saveSnapshot();
        y.addRelation(1);
        y.setVariables(10);
        CHECK.equal("55: nothing", y.restoreSnapshot(), 0);
        CHECK.equal("55: one variable", Whole.variables(y), 1);
    }

    private static void whatStays() {
        BooleanConstraints x = example();
        x.saveSnapshot();
        x.append('1');
        x.append('1');
        x.write(1);
        x.storeFlags(0, 4, 1);
        x.restoreSnapshot();
        CHECK.equal("55: the output stays", Whole.output(x), "10,01");
        CHECK.equal("55: the flags stay", x.takeFlags(0, 0), 2);
        CHECK.equal("55: the input stays", x.parse(), 2);
        CHECK.fails("55: wrong text", IllegalArgumentException.class, x::parse);
        x.restoreSnapshot();
        CHECK.equal("55: the error position stays", x.errorPosition(), 0);
    }
}
