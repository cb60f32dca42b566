import java.io.IOException;
import java.nio.file.Path;

/** The document from its first line to its last: a test for each of its sentences, worked out by hand. */
public final class DocumentTests extends Sentences {

    public static void main(String[] args) throws IOException {
        readDocument(Path.of(args.length > 0 ? args[0] : "../shared/DOC.md"));
        FaceAndPurpose.run();
        BoundaryOfForms.run();
        BoundaryOfWishes.run();
        BoundaryOfErrors.run();
        BoundaryOfActs.run();
        BoundaryOfAnswers.run();
        LeadingWords.run();
        if (!allHold("DocumentTests")) {
            System.exit(1);
        }
    }
}
