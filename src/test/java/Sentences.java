import java.util.ArrayList;
import java.util.List;
import java.util.NoSuchElementException;

/** Tests of the document's sentences: each sentence with the checks that fail if it is broken. */
abstract class Sentences {
    interface ActWith {
        Object on(BooleanConstraints x, int argument);
    }

    static final Class<IllegalArgumentException> ARGUMENT = IllegalArgumentException.class;
    static final Class<IllegalStateException> STATE = IllegalStateException.class;
    static final Class<IndexOutOfBoundsException> INDEX = IndexOutOfBoundsException.class;
    static final Class<UnsupportedOperationException> KIND = UnsupportedOperationException.class;
    static final Class<NoSuchElementException> NONE = NoSuchElementException.class;

    private final Check check;
    private final List<String> told = new ArrayList<>();
    private String section = "";
    private String key = "";

    Sentences(Check check) {
        this.check = check;
    }

    /** The keys of the sentences that were tested. */
    List<String> tell() {
        run();
        return told;
    }

    abstract void run();

    void section(String name) {
        section = name;
    }

    void promise(int number) {
        section = String.valueOf(number);
    }

    void says(String sentence, Runnable test) {
        key = DocumentText.key(section, sentence);
        told.add(key);
        int before = check.count();
        try {
            test.run();
        } catch (RuntimeException e) {
            check.equal(key, "an end by " + e, "its checks");
        }
        if (check.count() == before) {
            check.equal(key, "no check", "its checks");
        }
    }

    void equal(Object got, Object due) {
        check.equal(key, got, due);
    }

    void isTrue(boolean got) {
        check.isTrue(key, got);
    }

    void isFalse(boolean got) {
        check.isFalse(key, got);
    }

    void fails(Class<? extends RuntimeException> due, Check.Call call) {
        check.fails(key, due, call);
    }

    /** The call throws just this exception, and leaves everything as it was. */
    void refuses(Whole.Start start, Class<? extends RuntimeException> due, Whole.Act act) {
        check.refuses(start, key, due, act);
    }

    /** The call answers this, and leaves everything as it was. */
    void answers(Whole.Start start, Object due, Whole.Act act) {
        BooleanConstraints x = start.make();
        equal(Check.outcome(() -> act.on(x)), String.valueOf(due));
        changesOnly(start, act);
    }

    /** The call leaves all parts as they were but those whose names start with one of these words. */
    void changesOnly(Whole.Start start, Whole.Act act, String... words) {
        check.changesOnly(start, key, act, words);
    }

    /** Numbers within a range are not refused by this exception, and those outside are, and change nothing. */
    void takes(int least, int most, Whole.Start start, Class<? extends RuntimeException> due, ActWith act) {
        for (int inside = least; inside <= most; inside++) {
            BooleanConstraints x = start.make();
            final int asked = inside;
            isFalse(Check.outcome(() -> act.on(x, asked)).equals("throws " + due.getSimpleName()));
        }
        takesNone(outside(least, most), start, due, act);
    }

    void takesNone(int[] wrong, Whole.Start start, Class<? extends RuntimeException> due, ActWith act) {
        for (int argument : wrong) {
            refuses(start, due, x -> act.on(x, argument));
        }
    }

    /**
     * Numbers outside of a range: just beside it, the least and the greatest int, and those that a shift, a mask or a
     * cast would take for one within.
     */
    static int[] outside(int least, int most) {
        int[] candidates = {least - 1, most + 1, Integer.MIN_VALUE, Integer.MAX_VALUE, least + 32, most - 32,
            most + 64, most + 256, most + 65536, Integer.MIN_VALUE + least, -1 - most};
        return java.util.Arrays.stream(candidates).filter(n -> n < least || n > most).distinct().toArray();
    }
}
