import java.io.IOException;
import java.nio.file.Path;

/** One test for each sentence of the document that names a boundary case, worked out by hand. */
public final class BoundaryTests extends Sentences {

    public static void main(String[] args) throws IOException {
        readDocument(Path.of(args.length > 0 ? args[0] : "../shared/DOC.md"));
        BoundaryOfForms.run();
        BoundaryOfWishes.run();
        BoundaryOfErrors.run();
        BoundaryOfActs.run();
        BoundaryOfAnswers.run();
        if (!allHold("BoundaryTests", sectionsToTest())) {
            System.exit(1);
        }
    }
}
