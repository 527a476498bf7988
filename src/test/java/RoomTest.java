import java.lang.management.ManagementFactory;

/** All calls of a run live in one room, so a call that answers makes no objects. */
public final class RoomTest {
    private static final Check CHECK = new Check("RoomTest");

    public static void main(String[] args) {
        BooleanConstraints x = new BooleanConstraints();
        com.sun.management.ThreadMXBean threads =
            (com.sun.management.ThreadMXBean) ManagementFactory.getThreadMXBean();
        for (int i = 0; i < 5; i++) {
            round(x);
        }
        long before = threads.getCurrentThreadAllocatedBytes();
        for (int i = 0; i < 1000; i++) {
            round(x);
        }
        long made = threads.getCurrentThreadAllocatedBytes() - before;
        CHECK.isTrue("1000 rounds of calls make " + made + " bytes of objects", made < 100_000);
        long beforeObjects = threads.getCurrentThreadAllocatedBytes();
        for (int i = 0; i < 100; i++) {
            x = new BooleanConstraints();
        }
        long each = (threads.getCurrentThreadAllocatedBytes() - beforeObjects) / 100;
        CHECK.isTrue("an object takes " + each + " bytes", each < 2_000);
        CHECK.equal("the last object is new", x.relationCount(), 0);
        CHECK.end();
    }

    private static void round(BooleanConstraints x) {
        relations(x);
        x.setVariables(10);
        for (int i = 0; i < 20; i++) {
            x.addConstraint(1, i % 10, (i + 1) % 10, 0, 0);
        }
        x.polymorphismCount(2);
        x.polymorphism(2, 0);
        x.lowestKind();
        x.solutionCount();
        x.solution(0);
        x.isForced(0, 1);
        x.greatestSolution();
        x.define(2, 0, 1, 0, 0);
        x.isRedundant(0);
        x.removeRedundant();
        x.append('1');
        x.parse();
        x.write(0);
        x.storeFlags(0, 16, 0);
        x.takeFlags(0, 0);
        x.saveSnapshot();
        x.restoreSnapshot();
    }

    private static void relations(BooleanConstraints x) {
        x.clear();
        x.addClause(4, 0);
        x.addClause(2, 1);
        x.addExchanged(0, 0, 3);
        x.addProjection(0, 1);
        x.addIntersection(0, 2);
        x.close(4, 2, 14);
    }
}
