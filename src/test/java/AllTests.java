/** Runs every test of the project; the last line counts the answers that were due and those that were not. */
public final class AllTests {
    private AllTests() {
    }

    public static void main(String[] args) {
        ModelTest.run(60);
        System.out.println(Check.passed + " passed, " + Check.failed + " failed");
        if (Check.failed != 0 || Check.passed == 0) {
            System.exit(1);
        }
    }
}
