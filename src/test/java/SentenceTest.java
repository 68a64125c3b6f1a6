import java.io.IOException;
import java.nio.file.Files;
import java.nio.file.Path;

/** Each sentence of the document that names a boundary case, with a test of its own. */
public final class SentenceTest {
    private static final Path DOCUMENT = Path.of("../shared/DOC.md");

    private SentenceTest() { }

    public static void main(String[] args) throws IOException {
        Sentences[] groups = {new LandSentences(), new TextSentences(), new PairSentences(), new LetterSentences(),
            new ChanceSentences(), new WalkSentences(), new ShelfSentences(), new RefusalSentences()};
        int sentences = 0;
        int wrong = 0;
        for (Sentences group : groups) {
            group.all();
            sentences += group.words().size();
            wrong += group.wrong();
            tellWhatIsNotInTheDocument(group);
        }
        System.out.println(wrong == 0 ? "SentenceTest: " + sentences + " sentences hold" : wrong + " answers are not as due");
        if (wrong != 0) {
            System.exit(1);
        }
    }

    /** A sentence that the document no more has breaks nothing by itself, but its test is to be looked at again. */
    private static void tellWhatIsNotInTheDocument(Sentences group) throws IOException {
        if (!Files.isRegularFile(DOCUMENT)) {
            return;
        }
        String document = Files.readString(DOCUMENT).replaceAll("\\s+", " ");
        for (String sentence : group.words()) {
            if (!document.contains(sentence)) {
                System.out.println("SentenceTest: the document does not say: " + sentence);
            }
        }
    }
}
