import java.util.IdentityHashMap;
import java.util.LinkedHashMap;
import java.util.Map;

/**
 * All that can be told of an object, part by part. Each part is asked of an object of its own, made in the same way:
 * so a part may be looked at by calls that change the object, and no object is used for more than 512 calls.
 */
final class Whole {
    interface Start {
        BooleanConstraints make();
    }

    interface Act {
        Object on(BooleanConstraints x);
    }

    private interface View {
        String of(BooleanConstraints x);
    }

    /** As many assignments as one object is asked for, beside the calls that make it. */
    private static final int ASSIGNMENTS_AT_ONCE = 256;

    private static final Map<String, View> VIEWS = new LinkedHashMap<>();

    /** What was told of objects that were made in the same way before. */
    private static final Map<Start, Map<String, String>> KNOWN = new IdentityHashMap<>();

    static {
        VIEWS.put("relations", Whole::relations);
        instanceViews("instance", x -> { });
        VIEWS.put("output", Whole::output);
        VIEWS.put("flags", Whole::flags);
        VIEWS.put("error", x -> Check.outcome(x::errorPosition));
        VIEWS.put("input length", x -> Check.outcome(() -> x.append('0')));
        VIEWS.put("input text", Whole::inputText);
        VIEWS.put("snapshot relations", x -> Check.outcome(x::restoreSnapshot) + " " + relations(x));
        instanceViews("snapshot", x -> Check.outcome(x::restoreSnapshot));
    }

    private interface Before {
        void to(BooleanConstraints x);
    }

    private Whole() {
    }

    private static void instanceViews(String name, Before before) {
        VIEWS.put(name + " variables", x -> {
            before.to(x);
            return "" + variables(x);
        });
        VIEWS.put(name + " constraints", x -> {
            before.to(x);
            return redundant(x);
        });
        for (int i = 0; i < 4; i++) {
            final int first = i * ASSIGNMENTS_AT_ONCE;
            VIEWS.put(name + " assignments from " + first, x -> {
                before.to(x);
                return violated(x, first);
            });
        }
    }

    /** The parts of an object that was made so. */
    static Map<String, String> of(Start start) {
        return KNOWN.computeIfAbsent(start, made -> behind(made, x -> null));
    }

    /** The parts of an object that was made so, behind a call. */
    static Map<String, String> behind(Start start, Act act) {
        Map<String, String> parts = new LinkedHashMap<>();
        for (Map.Entry<String, View> view : VIEWS.entrySet()) {
            BooleanConstraints x = start.make();
            Check.outcome(() -> act.on(x));
            parts.put(view.getKey(), view.getValue().of(x));
        }
        return parts;
    }

    /** The tuples of a relation as a set: bit t for tuple t. */
    static int tuples(BooleanConstraints x, int relation) {
        int set = 0;
        int arity = x.arity(relation);
        for (int tuple = 0; tuple < 1 << arity; tuple++) {
            if (x.contains(relation, tuple)) {
                set |= 1 << tuple;
            }
        }
        return set;
    }

    static String output(BooleanConstraints x) {
        StringBuilder text = new StringBuilder();
        try {
            for (int i = 0; i < 100; i++) {
                text.append(x.outputAt(i));
            }
        } catch (IndexOutOfBoundsException e) {
            return text.toString();
        }
        return text.append(" and no end").toString();
    }

    static int variables(BooleanConstraints x) {
        int count = 0;
        while (count < 99 && hasVariable(x, count)) {
            count++;
        }
        return count;
    }

    private static boolean hasVariable(BooleanConstraints x, int variable) {
        return !Check.outcome(() -> x.isForced(variable, 0)).startsWith("throws");
    }

    private static String relations(BooleanConstraints x) {
        StringBuilder text = new StringBuilder();
        for (int relation = 0; relation < x.relationCount(); relation++) {
            text.append(' ').append(x.arity(relation)).append(':').append(tuples(x, relation));
        }
        return text.toString();
    }

    private static String redundant(BooleanConstraints x) {
        StringBuilder text = new StringBuilder();
        for (int constraint = 0; constraint <= BooleanConstraints.MAX_CONSTRAINTS; constraint++) {
            final int asked = constraint;
            text.append(' ').append(Check.outcome(() -> x.isRedundant(asked)));
        }
        return text.toString();
    }

    private static String violated(BooleanConstraints x, int first) {
        StringBuilder text = new StringBuilder();
        int end = Math.min(1 << variables(x), first + ASSIGNMENTS_AT_ONCE);
        for (int assignment = first; assignment < end; assignment++) {
            final int asked = assignment;
            text.append(' ').append(Check.outcome(() -> x.firstViolated(asked)));
        }
        return text.toString();
    }

    private static String flags(BooleanConstraints x) {
        StringBuilder text = new StringBuilder();
        for (int slot = 0; slot < 3; slot++) {
            text.append('[');
            for (int i = 0; i <= 16; i++) {
                final int askedSlot = slot;
                final int asked = i;
                text.append(Check.outcome(() -> x.setFlag(askedSlot, asked, true))).append(' ');
            }
            text.append(']');
        }
        return text.toString();
    }

    private static String inputText(BooleanConstraints x) {
        x.clear();
        String answer = Check.outcome(x::parse);
        return answer + " " + Check.outcome(x::errorPosition) + " " + relations(x);
    }
}
