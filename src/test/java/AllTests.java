/** Runs all tests of the project. */
public final class AllTests {
    private AllTests() {
    }

    public static void main(String[] args) {
        FaceTests.run();
        ProgramTests.run();
        FunctionTests.run();
        TableTests.run();
        ModelTests.run();
        System.exit(Check.finish());
    }
}
