import java.lang.management.ManagementFactory;

/** All calls of a run live in one room, so a call that answers makes no objects. */
public final class RoomTest {
    private static final Check CHECK = new Check("RoomTest");

    private static final com.sun.management.ThreadMXBean THREADS =
        (com.sun.management.ThreadMXBean) ManagementFactory.getThreadMXBean();

    /** A round has 45 calls, so ten are what an object may be asked for. */
    private static final int ROUNDS = 10;
    private static final int OBJECTS = 100;

    public static void main(String[] args) {
        rounds(made());
        BooleanConstraints[] objects = made();
        long before = THREADS.getCurrentThreadAllocatedBytes();
        rounds(objects);
        long bytes = THREADS.getCurrentThreadAllocatedBytes() - before;
        CHECK.isTrue("1000 rounds of calls make " + bytes + " bytes of objects", bytes < 100_000);
        long beforeObjects = THREADS.getCurrentThreadAllocatedBytes();
        BooleanConstraints[] more = made();
        long each = (THREADS.getCurrentThreadAllocatedBytes() - beforeObjects) / OBJECTS;
        CHECK.isTrue("an object takes " + each + " bytes", each < 2_000);
        CHECK.equal("the last object is new", more[OBJECTS - 1].relationCount(), 0);
        CHECK.end();
    }

    private static BooleanConstraints[] made() {
        BooleanConstraints[] objects = new BooleanConstraints[OBJECTS];
        for (int i = 0; i < OBJECTS; i++) {
            objects[i] = new BooleanConstraints();
        }
        return objects;
    }

    private static void rounds(BooleanConstraints[] objects) {
        for (BooleanConstraints x : objects) {
            for (int i = 0; i < ROUNDS; i++) {
                round(x);
            }
        }
    }

    private static void round(BooleanConstraints x) {
        relations(x);
        x.setVariables(10);
        for (int i = 0; i < 20; i++) {
            x.addConstraint(1, i % 10, (i + 1) % 10, 0, 0);
        }
        x.polymorphismCount(2);
        x.polymorphism(2, 0);
        x.lowestKind();
        x.solutionCount();
        x.solution(0);
        x.isForced(0, 1);
        x.greatestSolution();
        x.define(2, 0, 1, 0, 0);
        x.isRedundant(0);
        x.removeRedundant();
        x.append('1');
        x.parse();
        x.write(0);
        x.storeFlags(0, 16, 0);
        x.takeFlags(0, 0);
        x.saveSnapshot();
        x.restoreSnapshot();
    }

    private static void relations(BooleanConstraints x) {
        x.clear();
        x.addClause(4, 0);
        x.addClause(2, 1);
        x.addExchanged(0, 0, 3);
        x.addProjection(0, 1);
        x.addIntersection(0, 2);
        x.close(4, 2, 14);
    }
}
