import java.io.IOException;
import java.nio.file.Path;

/** Runs the tests of each sentence of the document at its edges; fails if a sentence has none. */
public final class EdgeTests {
    private EdgeTests() {
    }

    static void run(Path file) throws IOException {
        Document document = new Document(file);
        Check.due("sections of the document", 55, () -> document.sections().size());
        ProbeTest.run();
        EdgeTermTest.run(document);
        EdgeTapeTest.run(document);
        EdgeActTest.run(document);
        EdgeLineTest.run(document);
        EdgeUndoTest.run(document);
        EdgePlaceTest.run(document);
        EdgeShownTest.run(document);
        EdgeRecordTest.run(document);
        EdgeTextTest.run(document);
        EdgeKeptTest.run(document);
        for (String sentence : document.untested()) {
            Check.due("a test of the sentence \"" + sentence + "\"", true, false);
        }
    }

    /** Runs them alone: takes the document. */
    public static void main(String[] args) throws IOException {
        run(Path.of(args.length > 0 ? args[0] : "../shared/DOC.md"));
        System.out.println(Check.passed + " passed, " + Check.failed + " failed");
        if (Check.failed != 0 || Check.passed == 0) {
            System.exit(1);
        }
    }
}
