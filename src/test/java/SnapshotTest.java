/** Promises 54 and 55: the snapshot. */
public final class SnapshotTest {
    private static final Check CHECK = new Check("SnapshotTest");
    private static final Class<IllegalStateException> STATE = IllegalStateException.class;

    public static void main(String[] args) {
        save();
        restore();
        whatStays();
        CHECK.end();
    }

    private static BooleanConstraints example() {
        BooleanConstraints x = new BooleanConstraints();
        x.addClause(3, 5);
        x.addParity(2, 1);
        x.setVariables(7);
        x.addConstraint(0, 6, 1, 2, 0);
        x.addConstraint(1, 6, 0, 0, 0);
        return x;
    }

    private static void changeAll(BooleanConstraints x) {
        x.addTuple(0, 5);
        x.removeTuple(1, 1);
        x.removeLastConstraint();
        x.addConstraint(1, 3, 4, 0, 0);
        x.addConstraint(0, 3, 4, 5, 0);
        x.addRelation(4);
    }

    private static void save() {
        BooleanConstraints x = new BooleanConstraints();
        CHECK.equal("54: no relations", x.saveSnapshot(), 0);
        x.addRelation(2);
        CHECK.equal("54: relations", x.saveSnapshot(), 1);
        x.clear();
        CHECK.equal("54: the later one counts", x.restoreSnapshot(), 1);
        BooleanConstraints y = example();
        String before = Portrait.of(y);
        CHECK.equal("54: two relations", y.saveSnapshot(), 2);
        CHECK.equal("54: nothing changes", Portrait.of(y), before);
    }

    private static void restore() {
        BooleanConstraints x = example();
        CHECK.failsAndKeeps(x, "55: none", STATE, x::restoreSnapshot);
        String before = Portrait.of(x);
        x.saveSnapshot();
        changeAll(x);
        CHECK.isFalse("55: changed", Portrait.of(x).equals(before));
        CHECK.equal("55: relations", x.restoreSnapshot(), 2);
        CHECK.equal("55: as before", Portrait.of(x), before);
        x.clear();
        x.setVariables(2);
        CHECK.equal("55: again", x.restoreSnapshot(), 2);
        CHECK.equal("55: the snapshot is kept", Portrait.of(x), before);
        changeAll(x);
        CHECK.equal("55: the changes behind it are not in it", x.restoreSnapshot(), 2);
        CHECK.equal("55: the changes behind it are not in it", Portrait.of(x), before);
        CHECK.equal("55: the constraints go on", x.addConstraint(0, 0, 1, 2, 0), 2);
        CHECK.equal("55: the relations go on", x.addRelation(1), 2);
        BooleanConstraints y = new BooleanConstraints();
        y.saveSnapshot();
        y.addRelation(1);
        y.setVariables(10);
        CHECK.equal("55: nothing", y.restoreSnapshot(), 0);
        CHECK.equal("55: one variable", Portrait.variables(y), 1);
    }

    private static void whatStays() {
        BooleanConstraints x = example();
        x.saveSnapshot();
        x.append('1');
        x.append('1');
        x.write(1);
        x.storeFlags(0, 4, 1);
        x.restoreSnapshot();
        CHECK.equal("55: the output stays", Portrait.output(x), "10,01");
        CHECK.equal("55: the flags stay", x.takeFlags(0, 0), 2);
        CHECK.equal("55: the input stays", x.parse(), 2);
        CHECK.fails("55: wrong text", IllegalArgumentException.class, x::parse);
        x.restoreSnapshot();
        CHECK.equal("55: the error position stays", x.errorPosition(), 0);
    }
}
