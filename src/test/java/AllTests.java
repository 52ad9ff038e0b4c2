import java.nio.file.Path;

/** Runs every test of the project; the last line counts the answers that were due and those that were not. */
public final class AllTests {
    private AllTests() {
    }

    /** Takes the folder of the compiled classes, the document, and the README. */
    public static void main(String[] args) throws java.io.IOException {
        TapeTest.run();
        ActTest.run();
        UndoTest.run();
        PlaceTest.run();
        SearchTest.run();
        HiddenTest.run();
        RecordTest.run();
        BoundTest.run();
        TextTest.run();
        KeptTest.run();
        EdgeTests.run(Path.of(args.length > 1 ? args[1] : "../shared/DOC.md"));
        FaceTest.run(args.length > 0 ? args[0] : ".");
        ReadmeTest.run(Path.of(args.length > 2 ? args[2] : "README.md"));
        RoomTest.run();
        ModelTest.run(400);
        System.out.println(Check.passed + " passed, " + Check.failed + " failed");
        if (Check.failed != 0 || Check.passed == 0) {
            System.exit(1);
        }
    }
}
