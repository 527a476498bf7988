import java.util.Map;

/** Counts what holds and what does not, and prints what does not. */
final class Check {
    interface Call {
        Object answer();
    }

    private final String name;
    private int held = 0;
    private int broken = 0;

    Check(String name) {
        this.name = name;
    }

    void equal(String what, Object got, Object due) {
        if (due.equals(got)) {
            held++;
        } else {
            broken++;
            System.out.println(name + ": " + what + " answered " + got + ", due is " + due);
        }
    }

    int count() {
        return held + broken;
    }

    void isTrue(String what, boolean got) {
        equal(what, got, true);
    }

    void isFalse(String what, boolean got) {
        equal(what, got, false);
    }

    /** The call throws just this class, no class below it: an index of an array, say, is no answer. */
    void fails(String what, Class<? extends RuntimeException> due, Call call) {
        equal(what, outcome(call), "throws " + due.getSimpleName());
    }

    /** The call throws just this class, and leaves everything as it was. */
    void refuses(Whole.Start start, String what, Class<? extends RuntimeException> due, Whole.Act act) {
        BooleanConstraints x = start.make();
        fails(what, due, () -> act.on(x));
        changesOnly(start, what, act);
    }

    /** The call leaves all parts as they were but those whose names start with one of these words. */
    void changesOnly(Whole.Start start, String what, Whole.Act act, String... words) {
        Map<String, String> before = Whole.of(start);
        Map<String, String> after = Whole.behind(start, act);
        for (String part : before.keySet()) {
            boolean mayChange = false;
            for (String word : words) {
                mayChange |= part.startsWith(word);
            }
            if (!mayChange) {
                equal(what + " (" + part + ")", after.get(part), before.get(part));
            }
        }
    }

    /** The input is refused as a text, with its error position, and leaves nothing behind. */
    void refusesText(BooleanConstraints object, String text, int position) {
        int relations = object.relationCount();
        fails("47: '" + text + "'", IllegalArgumentException.class, object::parse);
        equal("48: '" + text + "'", object.errorPosition(), position);
        equal("47: no relation of '" + text + "'", object.relationCount(), relations);
        equal("47: the input is empty behind '" + text + "'", object.append('0'), 1);
    }

    static String outcome(Call call) {
        try {
            return String.valueOf(call.answer());
        } catch (RuntimeException e) {
            return "throws " + e.getClass().getSimpleName();
        }
    }

    void end() {
        System.out.println(name + ": " + held + " checks held, " + broken + " did not");
        if (broken != 0 || held == 0) {
            System.exit(1);
        }
    }
}
