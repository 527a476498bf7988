import java.nio.file.Files;
import java.nio.file.Path;
import java.util.ArrayList;
import java.util.List;

/** Each sentence of the document that promises something has a test of its own, and holds. */
public final class SentencesTest {
    private static final Check CHECK = new Check("SentencesTest");

    /** The first sentence of the document says what the class is about, and is no promise. */
    private static final String TITLE = "What it is: A workbench for Boolean constraint languages:";

    public static void main(String[] args) throws Exception {
        Sentences[] groups = {new DescriptionSentences(CHECK), new RelationSentences(CHECK),
            new OperationSentences(CHECK), new KindSentences(CHECK), new InstanceSentences(CHECK),
            new TextSentences(CHECK), new FlagSentences(CHECK), new SnapshotSentences(CHECK), new UseSentences(CHECK)};
        List<String> told = new ArrayList<>();
        for (Sentences group : groups) {
            told.addAll(group.tell());
        }
        if (args.length > 1 && Files.isReadable(Path.of(args[1]))) {
            compare(told, DocumentText.keys(Path.of(args[1])));
        } else {
            System.out.println("SentencesTest: there is no document to compare the sentences with");
        }
        CHECK.end();
    }

    private static void compare(List<String> told, List<String> written) {
        for (String key : written) {
            if (!key.startsWith(TITLE)) {
                CHECK.isTrue("a test of the sentence " + key, told.contains(key));
            }
        }
        for (String key : told) {
            CHECK.isTrue("the document says " + key, written.contains(key));
            CHECK.isTrue("one test alone of " + key, told.indexOf(key) == told.lastIndexOf(key));
        }
        System.out.println("SentencesTest: " + told.size() + " sentences of the document");
    }
}
