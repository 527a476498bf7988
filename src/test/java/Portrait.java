/** All that can be asked of an object without changing it for good, as a text. */
final class Portrait {
    private Portrait() {
    }

    static String of(BooleanConstraints x) {
        StringBuilder text = new StringBuilder();
        relations(x, text);
        instance(x, text);
        text.append(" output ").append(output(x));
        flags(x, text);
        text.append(" error ").append(Check.outcome(x::errorPosition));
        return text.toString();
    }

    /** The tuples of a relation as a set: bit t for tuple t. */
    static int tuples(BooleanConstraints x, int relation) {
        int set = 0;
        int arity = x.arity(relation);
        for (int tuple = 0; tuple < 1 << arity; tuple++) {
            if (x.contains(relation, tuple)) {
                set |= 1 << tuple;
            }
        }
        return set;
    }

    static int variables(BooleanConstraints x) {
        int count = 1;
        while (!Check.outcome(assignmentCall(x, 1 << count)).equals("throws IllegalArgumentException")) {
            count++;
        }
        return count;
    }

    static String output(BooleanConstraints x) {
        StringBuilder text = new StringBuilder();
        try {
            for (int i = 0; i < 100; i++) {
                text.append(x.outputAt(i));
            }
        } catch (IndexOutOfBoundsException e) {
            return text.toString();
        }
        return text.append(" and no end").toString();
    }

    private static void relations(BooleanConstraints x, StringBuilder text) {
        text.append("relations");
        for (int relation = 0; relation < x.relationCount(); relation++) {
            text.append(' ').append(x.arity(relation)).append(':').append(tuples(x, relation));
        }
    }

    private static void instance(BooleanConstraints x, StringBuilder text) {
        int count = variables(x);
        text.append(" variables ").append(count).append(" violated");
        for (int assignment = 0; assignment < 1 << count; assignment++) {
            text.append(' ').append(Check.outcome(assignmentCall(x, assignment)));
        }
        text.append(" redundant");
        for (int constraint = 0; constraint <= BooleanConstraints.MAX_CONSTRAINTS; constraint++) {
            final int asked = constraint;
            text.append(' ').append(Check.outcome(() -> x.isRedundant(asked)));
        }
    }

    private static Check.Call assignmentCall(BooleanConstraints x, int assignment) {
        return () -> x.firstViolated(assignment);
    }

    /** An element can be read only by changing it, so it is changed back. */
    private static void flags(BooleanConstraints x, StringBuilder text) {
        text.append(" flags");
        for (int slot = 0; slot < 3; slot++) {
            text.append(" [");
            try {
                for (int i = 0; i < 100; i++) {
                    boolean value = x.setFlag(slot, i, true);
                    x.setFlag(slot, i, value);
                    text.append(value ? '1' : '0');
                }
            } catch (IllegalStateException e) {
                text.append("empty");
            } catch (IndexOutOfBoundsException e) {
                text.append(']');
            }
        }
    }
}
